def rm_M_before : Room := { frames := 0, cells := 0, slots := 0, locals := 0 }
theorem dM_before_0 : decode cM_before 0 = .ok (.lload_n 2, 1) := by decide +kernel
theorem dM_before_1 : decode cM_before 1 = .ok (.aload_n 0, 1) := by decide +kernel
theorem dM_before_2 : decode cM_before 2 = .ok (.getfield 41, 3) := by decide +kernel
theorem dM_before_5 : decode cM_before 5 = .ok (.iload 4, 2) := by decide +kernel
theorem dM_before_7 : decode cM_before 7 = .ok (.laload, 1) := by decide +kernel
theorem dM_before_8 : decode cM_before 8 = .ok (.lcmp, 1) := by decide +kernel
theorem dM_before_9 : decode cM_before 9 = .ok (.ifCond .eq 21, 3) := by decide +kernel
theorem dM_before_12 : decode cM_before 12 = .ok (.lload_n 2, 1) := by decide +kernel
theorem dM_before_13 : decode cM_before 13 = .ok (.aload_n 0, 1) := by decide +kernel
theorem dM_before_14 : decode cM_before 14 = .ok (.getfield 41, 3) := by decide +kernel
theorem dM_before_17 : decode cM_before 17 = .ok (.iload 4, 2) := by decide +kernel
theorem dM_before_19 : decode cM_before 19 = .ok (.laload, 1) := by decide +kernel
theorem dM_before_20 : decode cM_before 20 = .ok (.lcmp, 1) := by decide +kernel
theorem dM_before_21 : decode cM_before 21 = .ok (.ifCond .ge 7, 3) := by decide +kernel
theorem dM_before_24 : decode cM_before 24 = .ok (.iconst 1, 1) := by decide +kernel
theorem dM_before_25 : decode cM_before 25 = .ok (.goto 4, 3) := by decide +kernel
theorem dM_before_28 : decode cM_before 28 = .ok (.iconst 0, 1) := by decide +kernel
theorem dM_before_29 : decode cM_before 29 = .ok (.ireturn, 1) := by decide +kernel
theorem dM_before_30 : decode cM_before 30 = .ok (.iconst 0, 1) := by decide +kernel
theorem dM_before_31 : decode cM_before 31 = .ok (.istore 5, 2) := by decide +kernel
theorem dM_before_33 : decode cM_before 33 = .ok (.iload 5, 2) := by decide +kernel
theorem dM_before_35 : decode cM_before 35 = .ok (.iconst 4, 1) := by decide +kernel
theorem dM_before_36 : decode cM_before 36 = .ok (.if_icmp .ge 65, 3) := by decide +kernel
theorem dM_before_39 : decode cM_before 39 = .ok (.aload_n 0, 1) := by decide +kernel
theorem dM_before_40 : decode cM_before 40 = .ok (.getfield 29, 3) := by decide +kernel
theorem dM_before_43 : decode cM_before 43 = .ok (.iload_n 1, 1) := by decide +kernel
theorem dM_before_44 : decode cM_before 44 = .ok (.iload 5, 2) := by decide +kernel
theorem dM_before_46 : decode cM_before 46 = .ok (.iadd, 1) := by decide +kernel
theorem dM_before_47 : decode cM_before 47 = .ok (.laload, 1) := by decide +kernel
theorem dM_before_48 : decode cM_before 48 = .ok (.aload_n 0, 1) := by decide +kernel
theorem dM_before_49 : decode cM_before 49 = .ok (.getfield 38, 3) := by decide +kernel
theorem dM_before_52 : decode cM_before 52 = .ok (.iconst 4, 1) := by decide +kernel
theorem dM_before_53 : decode cM_before 53 = .ok (.iload 4, 2) := by decide +kernel
theorem dM_before_55 : decode cM_before 55 = .ok (.imul, 1) := by decide +kernel
theorem dM_before_56 : decode cM_before 56 = .ok (.iload 5, 2) := by decide +kernel
theorem dM_before_58 : decode cM_before 58 = .ok (.iadd, 1) := by decide +kernel
theorem dM_before_59 : decode cM_before 59 = .ok (.laload, 1) := by decide +kernel
theorem dM_before_60 : decode cM_before 60 = .ok (.lcmp, 1) := by decide +kernel
theorem dM_before_61 : decode cM_before 61 = .ok (.ifCond .eq 34, 3) := by decide +kernel
theorem dM_before_64 : decode cM_before 64 = .ok (.aload_n 0, 1) := by decide +kernel
theorem dM_before_65 : decode cM_before 65 = .ok (.getfield 29, 3) := by decide +kernel
theorem dM_before_68 : decode cM_before 68 = .ok (.iload_n 1, 1) := by decide +kernel
theorem dM_before_69 : decode cM_before 69 = .ok (.iload 5, 2) := by decide +kernel
theorem dM_before_71 : decode cM_before 71 = .ok (.iadd, 1) := by decide +kernel
theorem dM_before_72 : decode cM_before 72 = .ok (.laload, 1) := by decide +kernel
theorem dM_before_73 : decode cM_before 73 = .ok (.aload_n 0, 1) := by decide +kernel
theorem dM_before_74 : decode cM_before 74 = .ok (.getfield 38, 3) := by decide +kernel
theorem dM_before_77 : decode cM_before 77 = .ok (.iconst 4, 1) := by decide +kernel
theorem dM_before_78 : decode cM_before 78 = .ok (.iload 4, 2) := by decide +kernel
theorem dM_before_80 : decode cM_before 80 = .ok (.imul, 1) := by decide +kernel
theorem dM_before_81 : decode cM_before 81 = .ok (.iload 5, 2) := by decide +kernel
theorem dM_before_83 : decode cM_before 83 = .ok (.iadd, 1) := by decide +kernel
theorem dM_before_84 : decode cM_before 84 = .ok (.laload, 1) := by decide +kernel
theorem dM_before_85 : decode cM_before 85 = .ok (.lcmp, 1) := by decide +kernel
theorem dM_before_86 : decode cM_before 86 = .ok (.ifCond .ge 7, 3) := by decide +kernel
theorem dM_before_89 : decode cM_before 89 = .ok (.iconst 1, 1) := by decide +kernel
theorem dM_before_90 : decode cM_before 90 = .ok (.goto 4, 3) := by decide +kernel
theorem dM_before_93 : decode cM_before 93 = .ok (.iconst 0, 1) := by decide +kernel
theorem dM_before_94 : decode cM_before 94 = .ok (.ireturn, 1) := by decide +kernel
theorem dM_before_95 : decode cM_before 95 = .ok (.iinc 5 1, 3) := by decide +kernel
theorem dM_before_98 : decode cM_before 98 = .ok (.goto (-65), 3) := by decide +kernel
theorem dM_before_101 : decode cM_before 101 = .ok (.iconst 0, 1) := by decide +kernel
theorem dM_before_102 : decode cM_before 102 = .ok (.ireturn, 1) := by decide +kernel
noncomputable def lM_before_33 (F : Nat) (x_made : Nat → Int64) (x_first : Nat → Int64) (v1 : Int32) (v4 : Int32) : Nat → Int32 → Option ((Unit) ⊕ (Int32))
  | 0, _ => none
  | n + 1, v5 => if (4 : Int32) ≤ v5 then some (.inl ()) else gd (vp_in (v1 + v5) 20) (gd (vp_in (((4 : Int32) * v4) + v5) 164) (if (x_made (v1 + v5).toNatClampNeg) = (x_first (((4 : Int32) * v4) + v5).toNatClampNeg) then lM_before_33 F x_made x_first v1 v4 n (v5 + 1) else gd (vp_in (v1 + v5) 20) (gd (vp_in (((4 : Int32) * v4) + v5) 164) (if (x_first (((4 : Int32) * v4) + v5).toNatClampNeg) ≤ (x_made (v1 + v5).toNatClampNeg) then some (.inr (0 : Int32)) else some (.inr (1 : Int32))))))
set_option maxHeartbeats 8000000 in
set_option maxRecDepth 100000 in
theorem lM_before_33_ok {g : Gm} {κ : ctx} (G : OK g κ RM cM_before 6 (some .boolean) rm_M_before) (X : Nat → va_E) (F : Nat) {x_many : Int32} {x_generator : Nat → Int32} {x_known : Int32} {x_without : Int32} {x_rows : Int32} {x_row : Nat → Int64} {x_pivot : Nat → Int32} {x_fresh : Nat → Int64} {x_multiple : Nat → Int64} {x_last : Nat → Int64} {x_made : Nat → Int64} {x_settled : Nat → Int64} {x_point : Nat → Int64} {x_limit : Int64} {x_mode : Int32} {x_counted : Int32} {x_listed : Int32} {x_held : Int32} {x_first : Nat → Int64} {x_squares : Nat → Int64} {x_wanted : Int32} {x_spanned : Int32} {x_span : Nat → Int64} {x_minima : Nat → Int32} {x_measured : Int32} {x_found : Nat → Int64} {x_any : Int32} (v1 : Int32) (v4 : Int32) : ∀ (n : Nat) (v5 : Int32) (out : (Unit) ⊕ (Int32)), lM_before_33 F x_made x_first v1 v4 n v5 = some out → (∀ e, out = .inl e → (J g κ 6 101 [] [] (LM κ (x_many, x_generator, x_known, x_without, x_rows, x_row, x_pivot, x_fresh, x_multiple, x_last, x_made, x_settled, x_point, x_limit, x_mode, x_counted, x_listed, x_held, x_first, x_squares, x_wanted, x_spanned, x_span, x_minima, x_measured, x_found, x_any) X))) → (∀ r, out = .inr r → Fn g κ (some (.int r)) (LM κ (x_many, x_generator, x_known, x_without, x_rows, x_row, x_pivot, x_fresh, x_multiple, x_last, x_made, x_settled, x_point, x_limit, x_mode, x_counted, x_listed, x_held, x_first, x_squares, x_wanted, x_spanned, x_span, x_minima, x_measured, x_found, x_any) X)) → J g κ 6 33 [(0, .ref (κ.1 0)), (1, .int v1), (4, .int v4), (5, .int v5)] [] (LM κ (x_many, x_generator, x_known, x_without, x_rows, x_row, x_pivot, x_fresh, x_multiple, x_last, x_made, x_settled, x_point, x_limit, x_mode, x_counted, x_listed, x_held, x_first, x_squares, x_wanted, x_spanned, x_span, x_minima, x_measured, x_found, x_any) X) := by
  intro n
  induction n with
  | zero =>
    intro v5
    intro out h
    rw [lM_before_33] at h
    cases h
  | succ n ih =>
    intro v5 out h K K2
    rw [lM_before_33] at h
    refine w_iload (pc := 33) (q := 3) G dM_before_33 rfl ?_
    refine w_iconst (pc := 35) (v := (4 : Int32)) G dM_before_35 (by decide) ?_
    refine w_icmp_ge (pc := 36) (tgt := 101) G dM_before_36 (by decide) (fun c36 => ?_) (fun c36 => ?_)
    · have h := if_t c36 h
      obtain rfl := Option.some.inj h
      refine w_sub (lv' := []) [] rfl ?_
      have K9 := K _ rfl
      exact K9
    · have h := if_f c36 h
      refine w_aload_n (pc := 39) (q := 0) G dM_before_39 rfl rfl ?_
      refine w_get (pc := 40) (v := .ref (κ.1 7)) (fs := fl_M κ (x_many, x_generator, x_known, x_without, x_rows, x_row, x_pivot, x_fresh, x_multiple, x_last, x_made, x_settled, x_point, x_limit, x_mode, x_counted, x_listed, x_held, x_first, x_squares, x_wanted, x_spanned, x_span, x_minima, x_measured, x_found, x_any)) G 0 (by decide) lb_M rfl wsM_ok 10 (by decide) wd500 gf_M_10 dM_before_40 ?_
      refine w_iload_n (pc := 43) (q := 1) G dM_before_43 rfl rfl ?_
      refine w_iload (pc := 44) (q := 3) G dM_before_44 rfl ?_
      refine w_iadd (pc := 46) G dM_before_46 ?_
      obtain ⟨i47, h⟩ := gd_some h
      refine w_lald (pc := 47) (n := 20) (f := x_made) G 7 (by decide) lk_made i47 dM_before_47 ?_
      refine w_aload_n (pc := 48) (q := 0) G dM_before_48 rfl rfl ?_
      refine w_get (pc := 49) (v := .ref (κ.1 10)) (fs := fl_M κ (x_many, x_generator, x_known, x_without, x_rows, x_row, x_pivot, x_fresh, x_multiple, x_last, x_made, x_settled, x_point, x_limit, x_mode, x_counted, x_listed, x_held, x_first, x_squares, x_wanted, x_spanned, x_span, x_minima, x_measured, x_found, x_any)) G 0 (by decide) lb_M rfl wsM_ok 18 (by decide) wd508 gf_M_18 dM_before_49 ?_
      refine w_iconst (pc := 52) (v := (4 : Int32)) G dM_before_52 (by decide) ?_
      refine w_iload (pc := 53) (q := 2) G dM_before_53 rfl ?_
      refine w_imul (pc := 55) G dM_before_55 ?_
      refine w_iload (pc := 56) (q := 3) G dM_before_56 rfl ?_
      refine w_iadd (pc := 58) G dM_before_58 ?_
      obtain ⟨i59, h⟩ := gd_some h
      refine w_lald (pc := 59) (n := 164) (f := x_first) G 10 (by decide) lk_first i59 dM_before_59 ?_
      refine w_lc_eq (pc := 60) (tgt := 95) G dM_before_60 dM_before_61 (by decide) (fun c60 => ?_) (fun c60 => ?_)
      · have h := if_t c60 h
        refine w_iinc (pc := 95) (q0 := 3) (v := (v5 + 1)) (lv' := [(5, .int (v5 + 1)), (0, .ref (κ.1 0)), (1, .int v1), (4, .int v4)]) G dM_before_95 rfl rfl (by decide) rfl ?_
        refine w_goto (pc := 98) (tgt := 33) G dM_before_98 (by decide) ?_
        refine w_sub (lv' := [(0, .ref (κ.1 0)), (1, .int v1), (4, .int v4), (5, .int (v5 + 1))]) [1, 2, 3, 0] rfl ?_
        exact ih (v5 + 1) out h K K2
      · have h := if_f c60 h
        refine w_aload_n (pc := 64) (q := 0) G dM_before_64 rfl rfl ?_
        refine w_get (pc := 65) (v := .ref (κ.1 7)) (fs := fl_M κ (x_many, x_generator, x_known, x_without, x_rows, x_row, x_pivot, x_fresh, x_multiple, x_last, x_made, x_settled, x_point, x_limit, x_mode, x_counted, x_listed, x_held, x_first, x_squares, x_wanted, x_spanned, x_span, x_minima, x_measured, x_found, x_any)) G 0 (by decide) lb_M rfl wsM_ok 10 (by decide) wd500 gf_M_10 dM_before_65 ?_
        refine w_iload_n (pc := 68) (q := 1) G dM_before_68 rfl rfl ?_
        refine w_iload (pc := 69) (q := 3) G dM_before_69 rfl ?_
        refine w_iadd (pc := 71) G dM_before_71 ?_
        obtain ⟨i72, h⟩ := gd_some h
        refine w_lald (pc := 72) (n := 20) (f := x_made) G 7 (by decide) lk_made i72 dM_before_72 ?_
        refine w_aload_n (pc := 73) (q := 0) G dM_before_73 rfl rfl ?_
        refine w_get (pc := 74) (v := .ref (κ.1 10)) (fs := fl_M κ (x_many, x_generator, x_known, x_without, x_rows, x_row, x_pivot, x_fresh, x_multiple, x_last, x_made, x_settled, x_point, x_limit, x_mode, x_counted, x_listed, x_held, x_first, x_squares, x_wanted, x_spanned, x_span, x_minima, x_measured, x_found, x_any)) G 0 (by decide) lb_M rfl wsM_ok 18 (by decide) wd508 gf_M_18 dM_before_74 ?_
        refine w_iconst (pc := 77) (v := (4 : Int32)) G dM_before_77 (by decide) ?_
        refine w_iload (pc := 78) (q := 2) G dM_before_78 rfl ?_
        refine w_imul (pc := 80) G dM_before_80 ?_
        refine w_iload (pc := 81) (q := 3) G dM_before_81 rfl ?_
        refine w_iadd (pc := 83) G dM_before_83 ?_
        obtain ⟨i84, h⟩ := gd_some h
        refine w_lald (pc := 84) (n := 164) (f := x_first) G 10 (by decide) lk_first i84 dM_before_84 ?_
        refine w_lc_ge (pc := 85) (tgt := 93) G dM_before_85 dM_before_86 (by decide) (fun c85 => ?_) (fun c85 => ?_)
        · have h := if_t c85 h
          refine w_iconst (pc := 93) (v := (0 : Int32)) G dM_before_93 (by decide) ?_
          obtain rfl := Option.some.inj h
          have K9 := K2 _ rfl
          exact w_zret (pc := 94) G rfl dM_before_94 K9
        · have h := if_f c85 h
          refine w_iconst (pc := 89) (v := (1 : Int32)) G dM_before_89 (by decide) ?_
          refine w_goto (pc := 90) (tgt := 94) G dM_before_90 (by decide) ?_
          obtain rfl := Option.some.inj h
          have K9 := K2 _ rfl
          exact w_zret (pc := 94) G rfl dM_before_94 K9
noncomputable def M_before (F : Nat) (x_made : Nat → Int64) (x_first : Nat → Int64) (x_squares : Nat → Int64) (v1 : Int32) (v2 : Int64) (v4 : Int32) : Option (Int32) := gd (vp_in v4 41) (if v2 = (x_squares v4.toNatClampNeg) then (lM_before_33 F x_made x_first v1 v4 F (0 : Int32)).bind (fun o33_16 => match o33_16 with | .inl o33_16 => some (0 : Int32) | .inr o33_16 => some o33_16) else gd (vp_in v4 41) (if (x_squares v4.toNatClampNeg) ≤ v2 then some (0 : Int32) else some (1 : Int32)))
set_option maxHeartbeats 8000000 in
set_option maxRecDepth 100000 in
theorem met_M_before (κ : ctx) (X : Nat → va_E) (F : Nat) {x_many : Int32} {x_generator : Nat → Int32} {x_known : Int32} {x_without : Int32} {x_rows : Int32} {x_row : Nat → Int64} {x_pivot : Nat → Int32} {x_fresh : Nat → Int64} {x_multiple : Nat → Int64} {x_last : Nat → Int64} {x_made : Nat → Int64} {x_settled : Nat → Int64} {x_point : Nat → Int64} {x_limit : Int64} {x_mode : Int32} {x_counted : Int32} {x_listed : Int32} {x_held : Int32} {x_first : Nat → Int64} {x_squares : Nat → Int64} {x_wanted : Int32} {x_spanned : Int32} {x_span : Nat → Int64} {x_minima : Nat → Int32} {x_measured : Int32} {x_found : Nat → Int64} {x_any : Int32} (v1 : Int32) (v2 : Int64) (v4 : Int32) {out : Int32} (h : M_before F x_made x_first x_squares v1 v2 v4 = some out) : Mt yM_before cM_before 6 (some .boolean) rm_M_before κ [.ref (κ.1 0), .int v1, .long v2, .int v4] (LM κ (x_many, x_generator, x_known, x_without, x_rows, x_row, x_pivot, x_fresh, x_multiple, x_last, x_made, x_settled, x_point, x_limit, x_mode, x_counted, x_listed, x_held, x_first, x_squares, x_wanted, x_spanned, x_span, x_minima, x_measured, x_found, x_any) X) (some (.int out)) (LM κ (x_many, x_generator, x_known, x_without, x_rows, x_row, x_pivot, x_fresh, x_multiple, x_last, x_made, x_settled, x_point, x_limit, x_mode, x_counted, x_listed, x_held, x_first, x_squares, x_wanted, x_spanned, x_span, x_minima, x_measured, x_found, x_any) X) := by
  refine Mt.of (by decide) (Nat.le_of_ble_eq_true rfl) ?_
  intro g G Fh
  unfold M_before at h
  show J g κ 6 0 [(0, .ref (κ.1 0)), (1, .int v1), (2, .long v2), (4, .int v4)] [] (LM κ (x_many, x_generator, x_known, x_without, x_rows, x_row, x_pivot, x_fresh, x_multiple, x_last, x_made, x_settled, x_point, x_limit, x_mode, x_counted, x_listed, x_held, x_first, x_squares, x_wanted, x_spanned, x_span, x_minima, x_measured, x_found, x_any) X)
  refine w_lload_n (pc := 0) (q := 2) G dM_before_0 rfl rfl ?_
  refine w_aload_n (pc := 1) (q := 0) G dM_before_1 rfl rfl ?_
  refine w_get (pc := 2) (v := .ref (κ.1 11)) (fs := fl_M κ (x_many, x_generator, x_known, x_without, x_rows, x_row, x_pivot, x_fresh, x_multiple, x_last, x_made, x_settled, x_point, x_limit, x_mode, x_counted, x_listed, x_held, x_first, x_squares, x_wanted, x_spanned, x_span, x_minima, x_measured, x_found, x_any)) G 0 (by decide) lb_M rfl wsM_ok 19 (by decide) wd509 gf_M_19 dM_before_2 ?_
  refine w_iload (pc := 5) (q := 3) G dM_before_5 rfl ?_
  obtain ⟨i7, h⟩ := gd_some h
  refine w_lald (pc := 7) (n := 41) (f := x_squares) G 11 (by decide) lk_squares i7 dM_before_7 ?_
  refine w_lc_eq (pc := 8) (tgt := 30) G dM_before_8 dM_before_9 (by decide) (fun c8 => ?_) (fun c8 => ?_)
  · have h := if_t c8 h
    refine w_iconst (pc := 30) (v := (0 : Int32)) G dM_before_30 (by decide) ?_
    refine w_istore (pc := 31) (lv' := [(5, .int (0 : Int32)), (0, .ref (κ.1 0)), (1, .int v1), (2, .long v2), (4, .int v4)]) G dM_before_31 (by decide) rfl ?_
    refine w_sub (lv' := [(0, .ref (κ.1 0)), (1, .int v1), (4, .int v4), (5, .int (0 : Int32))]) [1, 2, 4, 0] rfl ?_
    obtain ⟨o33_16, eo33_16, h⟩ := bd h
    rcases o33_16 with o33_16 | o33_16
    · refine lM_before_33_ok G X F v1 v4 F (0 : Int32) (.inl o33_16) eo33_16 (fun e he => ?_) (fun r he => by cases he)
      cases he
      dsimp only at h
      refine w_iconst (pc := 101) (v := (0 : Int32)) G dM_before_101 (by decide) ?_
      obtain rfl := Option.some.inj h
      exact w_zret (pc := 102) G rfl dM_before_102 Fh
    · refine lM_before_33_ok G X F v1 v4 F (0 : Int32) (.inr o33_16) eo33_16 (fun e he => by cases he) (fun r he => ?_)
      cases he
      dsimp only at h
      obtain rfl := Option.some.inj h
      exact Fh
  · have h := if_f c8 h
    refine w_lload_n (pc := 12) (q := 2) G dM_before_12 rfl rfl ?_
    refine w_aload_n (pc := 13) (q := 0) G dM_before_13 rfl rfl ?_
    refine w_get (pc := 14) (v := .ref (κ.1 11)) (fs := fl_M κ (x_many, x_generator, x_known, x_without, x_rows, x_row, x_pivot, x_fresh, x_multiple, x_last, x_made, x_settled, x_point, x_limit, x_mode, x_counted, x_listed, x_held, x_first, x_squares, x_wanted, x_spanned, x_span, x_minima, x_measured, x_found, x_any)) G 0 (by decide) lb_M rfl wsM_ok 19 (by decide) wd509 gf_M_19 dM_before_14 ?_
    refine w_iload (pc := 17) (q := 3) G dM_before_17 rfl ?_
    obtain ⟨i19, h⟩ := gd_some h
    refine w_lald (pc := 19) (n := 41) (f := x_squares) G 11 (by decide) lk_squares i19 dM_before_19 ?_
    refine w_lc_ge (pc := 20) (tgt := 28) G dM_before_20 dM_before_21 (by decide) (fun c20 => ?_) (fun c20 => ?_)
    · have h := if_t c20 h
      refine w_iconst (pc := 28) (v := (0 : Int32)) G dM_before_28 (by decide) ?_
      obtain rfl := Option.some.inj h
      exact w_zret (pc := 29) G rfl dM_before_29 Fh
    · have h := if_f c20 h
      refine w_iconst (pc := 24) (v := (1 : Int32)) G dM_before_24 (by decide) ?_
      refine w_goto (pc := 25) (tgt := 29) G dM_before_25 (by decide) ?_
      obtain rfl := Option.some.inj h
      exact w_zret (pc := 29) G rfl dM_before_29 Fh
def rm_M_sortIn : Room := { frames := 1, cells := 0, slots := 0, locals := 25 }
theorem dM_sortIn_0 : decode cM_sortIn 0 = .ok (.aload_n 0, 1) := by decide +kernel
theorem dM_sortIn_1 : decode cM_sortIn 1 = .ok (.getfield 187, 3) := by decide +kernel
theorem dM_sortIn_4 : decode cM_sortIn 4 = .ok (.istore 4, 2) := by decide +kernel
theorem dM_sortIn_6 : decode cM_sortIn 6 = .ok (.iload 4, 2) := by decide +kernel
theorem dM_sortIn_8 : decode cM_sortIn 8 = .ok (.ifCond .le 86, 3) := by decide +kernel
theorem dM_sortIn_11 : decode cM_sortIn 11 = .ok (.aload_n 0, 1) := by decide +kernel
theorem dM_sortIn_12 : decode cM_sortIn 12 = .ok (.iload_n 1, 1) := by decide +kernel
theorem dM_sortIn_13 : decode cM_sortIn 13 = .ok (.lload_n 2, 1) := by decide +kernel
theorem dM_sortIn_14 : decode cM_sortIn 14 = .ok (.iload 4, 2) := by decide +kernel
theorem dM_sortIn_16 : decode cM_sortIn 16 = .ok (.iconst 1, 1) := by decide +kernel
theorem dM_sortIn_17 : decode cM_sortIn 17 = .ok (.isub, 1) := by decide +kernel
theorem dM_sortIn_18 : decode cM_sortIn 18 = .ok (.invokevirtual 190, 3) := by decide +kernel
theorem dM_sortIn_21 : decode cM_sortIn 21 = .ok (.ifCond .eq 73, 3) := by decide +kernel
theorem dM_sortIn_24 : decode cM_sortIn 24 = .ok (.iload 4, 2) := by decide +kernel
theorem dM_sortIn_26 : decode cM_sortIn 26 = .ok (.bipush 41, 2) := by decide +kernel
theorem dM_sortIn_28 : decode cM_sortIn 28 = .ok (.if_icmp .ge 60, 3) := by decide +kernel
theorem dM_sortIn_31 : decode cM_sortIn 31 = .ok (.aload_n 0, 1) := by decide +kernel
theorem dM_sortIn_32 : decode cM_sortIn 32 = .ok (.getfield 41, 3) := by decide +kernel
theorem dM_sortIn_35 : decode cM_sortIn 35 = .ok (.iload 4, 2) := by decide +kernel
theorem dM_sortIn_37 : decode cM_sortIn 37 = .ok (.aload_n 0, 1) := by decide +kernel
theorem dM_sortIn_38 : decode cM_sortIn 38 = .ok (.getfield 41, 3) := by decide +kernel
theorem dM_sortIn_41 : decode cM_sortIn 41 = .ok (.iload 4, 2) := by decide +kernel
theorem dM_sortIn_43 : decode cM_sortIn 43 = .ok (.iconst 1, 1) := by decide +kernel
theorem dM_sortIn_44 : decode cM_sortIn 44 = .ok (.isub, 1) := by decide +kernel
theorem dM_sortIn_45 : decode cM_sortIn 45 = .ok (.laload, 1) := by decide +kernel
theorem dM_sortIn_46 : decode cM_sortIn 46 = .ok (.lastore, 1) := by decide +kernel
theorem dM_sortIn_47 : decode cM_sortIn 47 = .ok (.iconst 0, 1) := by decide +kernel
theorem dM_sortIn_48 : decode cM_sortIn 48 = .ok (.istore 5, 2) := by decide +kernel
theorem dM_sortIn_50 : decode cM_sortIn 50 = .ok (.iload 5, 2) := by decide +kernel
theorem dM_sortIn_52 : decode cM_sortIn 52 = .ok (.iconst 4, 1) := by decide +kernel
theorem dM_sortIn_53 : decode cM_sortIn 53 = .ok (.if_icmp .ge 35, 3) := by decide +kernel
theorem dM_sortIn_56 : decode cM_sortIn 56 = .ok (.aload_n 0, 1) := by decide +kernel
theorem dM_sortIn_57 : decode cM_sortIn 57 = .ok (.getfield 38, 3) := by decide +kernel
theorem dM_sortIn_60 : decode cM_sortIn 60 = .ok (.iconst 4, 1) := by decide +kernel
theorem dM_sortIn_61 : decode cM_sortIn 61 = .ok (.iload 4, 2) := by decide +kernel
theorem dM_sortIn_63 : decode cM_sortIn 63 = .ok (.imul, 1) := by decide +kernel
theorem dM_sortIn_64 : decode cM_sortIn 64 = .ok (.iload 5, 2) := by decide +kernel
theorem dM_sortIn_66 : decode cM_sortIn 66 = .ok (.iadd, 1) := by decide +kernel
theorem dM_sortIn_67 : decode cM_sortIn 67 = .ok (.aload_n 0, 1) := by decide +kernel
theorem dM_sortIn_68 : decode cM_sortIn 68 = .ok (.getfield 38, 3) := by decide +kernel
theorem dM_sortIn_71 : decode cM_sortIn 71 = .ok (.iconst 4, 1) := by decide +kernel
theorem dM_sortIn_72 : decode cM_sortIn 72 = .ok (.iload 4, 2) := by decide +kernel
theorem dM_sortIn_74 : decode cM_sortIn 74 = .ok (.imul, 1) := by decide +kernel
theorem dM_sortIn_75 : decode cM_sortIn 75 = .ok (.iconst 4, 1) := by decide +kernel
theorem dM_sortIn_76 : decode cM_sortIn 76 = .ok (.isub, 1) := by decide +kernel
theorem dM_sortIn_77 : decode cM_sortIn 77 = .ok (.iload 5, 2) := by decide +kernel
theorem dM_sortIn_79 : decode cM_sortIn 79 = .ok (.iadd, 1) := by decide +kernel
theorem dM_sortIn_80 : decode cM_sortIn 80 = .ok (.laload, 1) := by decide +kernel
theorem dM_sortIn_81 : decode cM_sortIn 81 = .ok (.lastore, 1) := by decide +kernel
theorem dM_sortIn_82 : decode cM_sortIn 82 = .ok (.iinc 5 1, 3) := by decide +kernel
theorem dM_sortIn_85 : decode cM_sortIn 85 = .ok (.goto (-35), 3) := by decide +kernel
theorem dM_sortIn_88 : decode cM_sortIn 88 = .ok (.iinc 4 (-1), 3) := by decide +kernel
theorem dM_sortIn_91 : decode cM_sortIn 91 = .ok (.goto (-85), 3) := by decide +kernel
theorem dM_sortIn_94 : decode cM_sortIn 94 = .ok (.iload 4, 2) := by decide +kernel
theorem dM_sortIn_96 : decode cM_sortIn 96 = .ok (.bipush 41, 2) := by decide +kernel
theorem dM_sortIn_98 : decode cM_sortIn 98 = .ok (.if_icmp .ge 73, 3) := by decide +kernel
theorem dM_sortIn_101 : decode cM_sortIn 101 = .ok (.aload_n 0, 1) := by decide +kernel
theorem dM_sortIn_102 : decode cM_sortIn 102 = .ok (.getfield 41, 3) := by decide +kernel
theorem dM_sortIn_105 : decode cM_sortIn 105 = .ok (.iload 4, 2) := by decide +kernel
theorem dM_sortIn_107 : decode cM_sortIn 107 = .ok (.lload_n 2, 1) := by decide +kernel
theorem dM_sortIn_108 : decode cM_sortIn 108 = .ok (.lastore, 1) := by decide +kernel
theorem dM_sortIn_109 : decode cM_sortIn 109 = .ok (.iconst 0, 1) := by decide +kernel
theorem dM_sortIn_110 : decode cM_sortIn 110 = .ok (.istore 5, 2) := by decide +kernel
theorem dM_sortIn_112 : decode cM_sortIn 112 = .ok (.iload 5, 2) := by decide +kernel
theorem dM_sortIn_114 : decode cM_sortIn 114 = .ok (.iconst 4, 1) := by decide +kernel
theorem dM_sortIn_115 : decode cM_sortIn 115 = .ok (.if_icmp .ge 30, 3) := by decide +kernel
theorem dM_sortIn_118 : decode cM_sortIn 118 = .ok (.aload_n 0, 1) := by decide +kernel
theorem dM_sortIn_119 : decode cM_sortIn 119 = .ok (.getfield 38, 3) := by decide +kernel
theorem dM_sortIn_122 : decode cM_sortIn 122 = .ok (.iconst 4, 1) := by decide +kernel
theorem dM_sortIn_123 : decode cM_sortIn 123 = .ok (.iload 4, 2) := by decide +kernel
theorem dM_sortIn_125 : decode cM_sortIn 125 = .ok (.imul, 1) := by decide +kernel
theorem dM_sortIn_126 : decode cM_sortIn 126 = .ok (.iload 5, 2) := by decide +kernel
theorem dM_sortIn_128 : decode cM_sortIn 128 = .ok (.iadd, 1) := by decide +kernel
theorem dM_sortIn_129 : decode cM_sortIn 129 = .ok (.aload_n 0, 1) := by decide +kernel
theorem dM_sortIn_130 : decode cM_sortIn 130 = .ok (.getfield 29, 3) := by decide +kernel
theorem dM_sortIn_133 : decode cM_sortIn 133 = .ok (.iload_n 1, 1) := by decide +kernel
theorem dM_sortIn_134 : decode cM_sortIn 134 = .ok (.iload 5, 2) := by decide +kernel
theorem dM_sortIn_136 : decode cM_sortIn 136 = .ok (.iadd, 1) := by decide +kernel
theorem dM_sortIn_137 : decode cM_sortIn 137 = .ok (.laload, 1) := by decide +kernel
theorem dM_sortIn_138 : decode cM_sortIn 138 = .ok (.lastore, 1) := by decide +kernel
theorem dM_sortIn_139 : decode cM_sortIn 139 = .ok (.iinc 5 1, 3) := by decide +kernel
theorem dM_sortIn_142 : decode cM_sortIn 142 = .ok (.goto (-30), 3) := by decide +kernel
theorem dM_sortIn_145 : decode cM_sortIn 145 = .ok (.aload_n 0, 1) := by decide +kernel
theorem dM_sortIn_146 : decode cM_sortIn 146 = .ok (.aload_n 0, 1) := by decide +kernel
theorem dM_sortIn_147 : decode cM_sortIn 147 = .ok (.getfield 187, 3) := by decide +kernel
theorem dM_sortIn_150 : decode cM_sortIn 150 = .ok (.bipush 41, 2) := by decide +kernel
theorem dM_sortIn_152 : decode cM_sortIn 152 = .ok (.if_icmp .ge 12, 3) := by decide +kernel
theorem dM_sortIn_155 : decode cM_sortIn 155 = .ok (.aload_n 0, 1) := by decide +kernel
theorem dM_sortIn_156 : decode cM_sortIn 156 = .ok (.getfield 187, 3) := by decide +kernel
theorem dM_sortIn_159 : decode cM_sortIn 159 = .ok (.iconst 1, 1) := by decide +kernel
theorem dM_sortIn_160 : decode cM_sortIn 160 = .ok (.iadd, 1) := by decide +kernel
theorem dM_sortIn_161 : decode cM_sortIn 161 = .ok (.goto 7, 3) := by decide +kernel
theorem dM_sortIn_164 : decode cM_sortIn 164 = .ok (.aload_n 0, 1) := by decide +kernel
theorem dM_sortIn_165 : decode cM_sortIn 165 = .ok (.getfield 187, 3) := by decide +kernel
theorem dM_sortIn_168 : decode cM_sortIn 168 = .ok (.putfield 187, 3) := by decide +kernel
theorem dM_sortIn_171 : decode cM_sortIn 171 = .ok (.return_, 1) := by decide +kernel
theorem cb_M_before_M_sortIn : CB yM_before cM_before 6 (some .boolean) rm_M_before rm_M_sortIn 3 := ⟨wd689, wd8, by decide +kernel, rfl, rfl, by decide⟩
noncomputable def lM_sortIn_50 (F : Nat) (v1 : Int32) (v2 : Int64) (v4 : Int32) : Nat → Int32 → (Nat → Int64) → Option ((Nat → Int64))
  | 0, _, _ => none
  | n + 1, v5, x_first => if (4 : Int32) ≤ v5 then some (x_first) else gd (vp_in ((((4 : Int32) * v4) - (4 : Int32)) + v5) 164) (gd (vp_in (((4 : Int32) * v4) + v5) 164) (lM_sortIn_50 F v1 v2 v4 n (v5 + 1) (vp_updL x_first (((4 : Int32) * v4) + v5).toNatClampNeg (x_first ((((4 : Int32) * v4) - (4 : Int32)) + v5).toNatClampNeg))))
set_option maxHeartbeats 8000000 in
set_option maxRecDepth 100000 in
theorem lM_sortIn_50_ok {g : Gm} {κ : ctx} (G : OK g κ RM cM_sortIn 6 none rm_M_sortIn) (X : Nat → va_E) (F : Nat) {x_many : Int32} {x_generator : Nat → Int32} {x_known : Int32} {x_without : Int32} {x_rows : Int32} {x_row : Nat → Int64} {x_pivot : Nat → Int32} {x_fresh : Nat → Int64} {x_multiple : Nat → Int64} {x_last : Nat → Int64} {x_made : Nat → Int64} {x_settled : Nat → Int64} {x_point : Nat → Int64} {x_limit : Int64} {x_mode : Int32} {x_counted : Int32} {x_listed : Int32} {x_held : Int32} {x_squares : Nat → Int64} {x_wanted : Int32} {x_spanned : Int32} {x_span : Nat → Int64} {x_minima : Nat → Int32} {x_measured : Int32} {x_found : Nat → Int64} {x_any : Int32} (v1 : Int32) (v2 : Int64) (v4 : Int32) : ∀ (n : Nat) (v5 : Int32) (x_first : Nat → Int64) (out : (Nat → Int64)), lM_sortIn_50 F  v1 v2 v4 n v5 x_first = some out → (J g κ 6 88 [(0, .ref (κ.1 0)), (1, .int v1), (2, .long v2), (4, .int v4)] [] (LM κ (x_many, x_generator, x_known, x_without, x_rows, x_row, x_pivot, x_fresh, x_multiple, x_last, x_made, x_settled, x_point, x_limit, x_mode, x_counted, x_listed, x_held, out, x_squares, x_wanted, x_spanned, x_span, x_minima, x_measured, x_found, x_any) X)) → J g κ 6 50 [(0, .ref (κ.1 0)), (1, .int v1), (2, .long v2), (4, .int v4), (5, .int v5)] [] (LM κ (x_many, x_generator, x_known, x_without, x_rows, x_row, x_pivot, x_fresh, x_multiple, x_last, x_made, x_settled, x_point, x_limit, x_mode, x_counted, x_listed, x_held, x_first, x_squares, x_wanted, x_spanned, x_span, x_minima, x_measured, x_found, x_any) X) := by
  intro n
  induction n with
  | zero =>
    intro v5 x_first
    intro out h
    rw [lM_sortIn_50] at h
    cases h
  | succ n ih =>
    intro v5 x_first out h K
    rw [lM_sortIn_50] at h
    refine w_iload (pc := 50) (q := 4) G dM_sortIn_50 rfl ?_
    refine w_iconst (pc := 52) (v := (4 : Int32)) G dM_sortIn_52 (by decide) ?_
    refine w_icmp_ge (pc := 53) (tgt := 88) G dM_sortIn_53 (by decide) (fun c53 => ?_) (fun c53 => ?_)
    · have h := if_t c53 h
      obtain rfl := Option.some.inj h
      refine w_sub (lv' := [(0, .ref (κ.1 0)), (1, .int v1), (2, .long v2), (4, .int v4)]) [0, 1, 2, 3] rfl ?_
      exact K
    · have h := if_f c53 h
      refine w_aload_n (pc := 56) (q := 0) G dM_sortIn_56 rfl rfl ?_
      refine w_get (pc := 57) (v := .ref (κ.1 10)) (fs := fl_M κ (x_many, x_generator, x_known, x_without, x_rows, x_row, x_pivot, x_fresh, x_multiple, x_last, x_made, x_settled, x_point, x_limit, x_mode, x_counted, x_listed, x_held, x_first, x_squares, x_wanted, x_spanned, x_span, x_minima, x_measured, x_found, x_any)) G 0 (by decide) lb_M rfl wsM_ok 18 (by decide) wd508 gf_M_18 dM_sortIn_57 ?_
      refine w_iconst (pc := 60) (v := (4 : Int32)) G dM_sortIn_60 (by decide) ?_
      refine w_iload (pc := 61) (q := 3) G dM_sortIn_61 rfl ?_
      refine w_imul (pc := 63) G dM_sortIn_63 ?_
      refine w_iload (pc := 64) (q := 4) G dM_sortIn_64 rfl ?_
      refine w_iadd (pc := 66) G dM_sortIn_66 ?_
      refine w_aload_n (pc := 67) (q := 0) G dM_sortIn_67 rfl rfl ?_
      refine w_get (pc := 68) (v := .ref (κ.1 10)) (fs := fl_M κ (x_many, x_generator, x_known, x_without, x_rows, x_row, x_pivot, x_fresh, x_multiple, x_last, x_made, x_settled, x_point, x_limit, x_mode, x_counted, x_listed, x_held, x_first, x_squares, x_wanted, x_spanned, x_span, x_minima, x_measured, x_found, x_any)) G 0 (by decide) lb_M rfl wsM_ok 18 (by decide) wd508 gf_M_18 dM_sortIn_68 ?_
      refine w_iconst (pc := 71) (v := (4 : Int32)) G dM_sortIn_71 (by decide) ?_
      refine w_iload (pc := 72) (q := 3) G dM_sortIn_72 rfl ?_
      refine w_imul (pc := 74) G dM_sortIn_74 ?_
      refine w_iconst (pc := 75) (v := (4 : Int32)) G dM_sortIn_75 (by decide) ?_
      refine w_isub (pc := 76) G dM_sortIn_76 ?_
      refine w_iload (pc := 77) (q := 4) G dM_sortIn_77 rfl ?_
      refine w_iadd (pc := 79) G dM_sortIn_79 ?_
      obtain ⟨i80, h⟩ := gd_some h
      refine w_lald (pc := 80) (n := 164) (f := x_first) G 10 (by decide) lk_first i80 dM_sortIn_80 ?_
      obtain ⟨i81, h⟩ := gd_some h
      refine w_last (pc := 81) (n := 164) (f := x_first) (L1 := (LM κ (x_many, x_generator, x_known, x_without, x_rows, x_row, x_pivot, x_fresh, x_multiple, x_last, x_made, x_settled, x_point, x_limit, x_mode, x_counted, x_listed, x_held, vp_updL x_first (((4 : Int32) * v4) + v5).toNatClampNeg (x_first ((((4 : Int32) * v4) - (4 : Int32)) + v5).toNatClampNeg), x_squares, x_wanted, x_spanned, x_span, x_minima, x_measured, x_found, x_any) X)) G 10 (by decide) lk_first i81 dM_sortIn_81 up_first ?_
      refine w_iinc (pc := 82) (q0 := 4) (v := (v5 + 1)) (lv' := [(5, .int (v5 + 1)), (0, .ref (κ.1 0)), (1, .int v1), (2, .long v2), (4, .int v4)]) G dM_sortIn_82 rfl rfl (by decide) rfl ?_
      refine w_goto (pc := 85) (tgt := 50) G dM_sortIn_85 (by decide) ?_
      refine w_sub (lv' := [(0, .ref (κ.1 0)), (1, .int v1), (2, .long v2), (4, .int v4), (5, .int (v5 + 1))]) [1, 2, 3, 4, 0] rfl ?_
      exact ih (v5 + 1) (vp_updL x_first (((4 : Int32) * v4) + v5).toNatClampNeg (x_first ((((4 : Int32) * v4) - (4 : Int32)) + v5).toNatClampNeg)) out h K
noncomputable def lM_sortIn_6 (F : Nat) (x_made : Nat → Int64) (v1 : Int32) (v2 : Int64) : Nat → Int32 → (Nat → Int64) → (Nat → Int64) → Option (Int32 × (Nat → Int64) × (Nat → Int64))
  | 0, _, _, _ => none
  | n + 1, v4, x_first, x_squares => if v4 ≤ 0 then some (v4, x_first, x_squares) else (M_before F x_made x_first x_squares v1 v2 (v4 - (1 : Int32))).bind (fun r18 => if r18 = 0 then some (v4, x_first, x_squares) else if (41 : Int32) ≤ v4 then lM_sortIn_6 F x_made v1 v2 n (v4 + (-1)) x_first x_squares else gd (vp_in (v4 - (1 : Int32)) 41) (gd (vp_in v4 41) ((lM_sortIn_50 F v1 v2 v4 F (0 : Int32) x_first).bind (fun o50_24 => lM_sortIn_6 F x_made v1 v2 n (v4 + (-1)) o50_24 (vp_updL x_squares v4.toNatClampNeg (x_squares (v4 - (1 : Int32)).toNatClampNeg))))))
set_option maxHeartbeats 8000000 in
set_option maxRecDepth 100000 in
theorem lM_sortIn_6_ok {g : Gm} {κ : ctx} (G : OK g κ RM cM_sortIn 6 none rm_M_sortIn) (X : Nat → va_E) (F : Nat) {x_many : Int32} {x_generator : Nat → Int32} {x_known : Int32} {x_without : Int32} {x_rows : Int32} {x_row : Nat → Int64} {x_pivot : Nat → Int32} {x_fresh : Nat → Int64} {x_multiple : Nat → Int64} {x_last : Nat → Int64} {x_made : Nat → Int64} {x_settled : Nat → Int64} {x_point : Nat → Int64} {x_limit : Int64} {x_mode : Int32} {x_counted : Int32} {x_listed : Int32} {x_held : Int32} {x_wanted : Int32} {x_spanned : Int32} {x_span : Nat → Int64} {x_minima : Nat → Int32} {x_measured : Int32} {x_found : Nat → Int64} {x_any : Int32} (v1 : Int32) (v2 : Int64) : ∀ (n : Nat) (v4 : Int32) (x_first : Nat → Int64) (x_squares : Nat → Int64) (out : Int32 × (Nat → Int64) × (Nat → Int64)), lM_sortIn_6 F x_made v1 v2 n v4 x_first x_squares = some out → (J g κ 6 94 [(0, .ref (κ.1 0)), (1, .int v1), (2, .long v2), (4, .int out.1)] [] (LM κ (x_many, x_generator, x_known, x_without, x_rows, x_row, x_pivot, x_fresh, x_multiple, x_last, x_made, x_settled, x_point, x_limit, x_mode, x_counted, x_listed, x_held, out.2.1, out.2.2, x_wanted, x_spanned, x_span, x_minima, x_measured, x_found, x_any) X)) → J g κ 6 6 [(0, .ref (κ.1 0)), (1, .int v1), (2, .long v2), (4, .int v4)] [] (LM κ (x_many, x_generator, x_known, x_without, x_rows, x_row, x_pivot, x_fresh, x_multiple, x_last, x_made, x_settled, x_point, x_limit, x_mode, x_counted, x_listed, x_held, x_first, x_squares, x_wanted, x_spanned, x_span, x_minima, x_measured, x_found, x_any) X) := by
  intro n
  induction n with
  | zero =>
    intro v4 x_first x_squares
    intro out h
    rw [lM_sortIn_6] at h
    cases h
  | succ n ih =>
    intro v4 x_first x_squares out h K
    rw [lM_sortIn_6] at h
    refine w_iload (pc := 6) (q := 3) G dM_sortIn_6 rfl ?_
    refine w_if_le (pc := 8) (tgt := 94) G dM_sortIn_8 (by decide) (fun c8 => ?_) (fun c8 => ?_)
    · have h := if_t c8 h
      obtain rfl := Option.some.inj h
      refine w_sub (lv' := [(0, .ref (κ.1 0)), (1, .int v1), (2, .long v2), (4, .int v4)]) [0, 1, 2, 3] rfl ?_
      exact K
    · have h := if_f c8 h
      refine w_aload_n (pc := 11) (q := 0) G dM_sortIn_11 rfl rfl ?_
      refine w_iload_n (pc := 12) (q := 1) G dM_sortIn_12 rfl rfl ?_
      refine w_lload_n (pc := 13) (q := 2) G dM_sortIn_13 rfl rfl ?_
      refine w_iload (pc := 14) (q := 3) G dM_sortIn_14 rfl ?_
      refine w_iconst (pc := 16) (v := (1 : Int32)) G dM_sortIn_16 (by decide) ?_
      refine w_isub (pc := 17) G dM_sortIn_17 ?_
      obtain ⟨r18, e18, h⟩ := bd h
      refine w_callV (pc := 18) (av := [.int v1, .long v2, .int (v4 - (1 : Int32))]) (rest := []) (v := some (.int r18)) (L' := (LM κ (x_many, x_generator, x_known, x_without, x_rows, x_row, x_pivot, x_fresh, x_multiple, x_last, x_made, x_settled, x_point, x_limit, x_mode, x_counted, x_listed, x_held, x_first, x_squares, x_wanted, x_spanned, x_span, x_minima, x_measured, x_found, x_any) X)) (T := TM) (fs := fl_M κ (x_many, x_generator, x_known, x_without, x_rows, x_row, x_pivot, x_fresh, x_multiple, x_last, x_made, x_settled, x_point, x_limit, x_mode, x_counted, x_listed, x_held, x_first, x_squares, x_wanted, x_spanned, x_span, x_minima, x_measured, x_found, x_any)) G 0 0 27 (by decide) lb_M rfl cb_M_before_M_sortIn wd688 ws36 wd686 (met_M_before κ X F v1 v2 (v4 - (1 : Int32))  e18) rfl rfl rfl (Nat.le_of_ble_eq_true rfl) dM_sortIn_18 ?_
      refine w_if_eq (pc := 21) (tgt := 94) G dM_sortIn_21 (by decide) (fun c21 => ?_) (fun c21 => ?_)
      · have h := if_t c21 h
        obtain rfl := Option.some.inj h
        refine w_sub (lv' := [(0, .ref (κ.1 0)), (1, .int v1), (2, .long v2), (4, .int v4)]) [0, 1, 2, 3] rfl ?_
        exact K
      · have h := if_f c21 h
        refine w_iload (pc := 24) (q := 3) G dM_sortIn_24 rfl ?_
        refine w_bipush (pc := 26) (v := (41 : Int32)) G dM_sortIn_26 (by decide) ?_
        refine w_icmp_ge (pc := 28) (tgt := 88) G dM_sortIn_28 (by decide) (fun c28 => ?_) (fun c28 => ?_)
        · have h := if_t c28 h
          refine w_iinc (pc := 88) (q0 := 3) (v := (v4 + (-1))) (lv' := [(4, .int (v4 + (-1))), (0, .ref (κ.1 0)), (1, .int v1), (2, .long v2)]) G dM_sortIn_88 rfl rfl (by decide) rfl ?_
          refine w_goto (pc := 91) (tgt := 6) G dM_sortIn_91 (by decide) ?_
          refine w_sub (lv' := [(0, .ref (κ.1 0)), (1, .int v1), (2, .long v2), (4, .int (v4 + (-1)))]) [1, 2, 3, 0] rfl ?_
          exact ih (v4 + (-1)) x_first x_squares out h K
        · have h := if_f c28 h
          refine w_aload_n (pc := 31) (q := 0) G dM_sortIn_31 rfl rfl ?_
          refine w_get (pc := 32) (v := .ref (κ.1 11)) (fs := fl_M κ (x_many, x_generator, x_known, x_without, x_rows, x_row, x_pivot, x_fresh, x_multiple, x_last, x_made, x_settled, x_point, x_limit, x_mode, x_counted, x_listed, x_held, x_first, x_squares, x_wanted, x_spanned, x_span, x_minima, x_measured, x_found, x_any)) G 0 (by decide) lb_M rfl wsM_ok 19 (by decide) wd509 gf_M_19 dM_sortIn_32 ?_
          refine w_iload (pc := 35) (q := 3) G dM_sortIn_35 rfl ?_
          refine w_aload_n (pc := 37) (q := 0) G dM_sortIn_37 rfl rfl ?_
          refine w_get (pc := 38) (v := .ref (κ.1 11)) (fs := fl_M κ (x_many, x_generator, x_known, x_without, x_rows, x_row, x_pivot, x_fresh, x_multiple, x_last, x_made, x_settled, x_point, x_limit, x_mode, x_counted, x_listed, x_held, x_first, x_squares, x_wanted, x_spanned, x_span, x_minima, x_measured, x_found, x_any)) G 0 (by decide) lb_M rfl wsM_ok 19 (by decide) wd509 gf_M_19 dM_sortIn_38 ?_
          refine w_iload (pc := 41) (q := 3) G dM_sortIn_41 rfl ?_
          refine w_iconst (pc := 43) (v := (1 : Int32)) G dM_sortIn_43 (by decide) ?_
          refine w_isub (pc := 44) G dM_sortIn_44 ?_
          obtain ⟨i45, h⟩ := gd_some h
          refine w_lald (pc := 45) (n := 41) (f := x_squares) G 11 (by decide) lk_squares i45 dM_sortIn_45 ?_
          obtain ⟨i46, h⟩ := gd_some h
          refine w_last (pc := 46) (n := 41) (f := x_squares) (L1 := (LM κ (x_many, x_generator, x_known, x_without, x_rows, x_row, x_pivot, x_fresh, x_multiple, x_last, x_made, x_settled, x_point, x_limit, x_mode, x_counted, x_listed, x_held, x_first, vp_updL x_squares v4.toNatClampNeg (x_squares (v4 - (1 : Int32)).toNatClampNeg), x_wanted, x_spanned, x_span, x_minima, x_measured, x_found, x_any) X)) G 11 (by decide) lk_squares i46 dM_sortIn_46 up_squares ?_
          refine w_iconst (pc := 47) (v := (0 : Int32)) G dM_sortIn_47 (by decide) ?_
          refine w_istore (pc := 48) (lv' := [(5, .int (0 : Int32)), (0, .ref (κ.1 0)), (1, .int v1), (2, .long v2), (4, .int v4)]) G dM_sortIn_48 (by decide) rfl ?_
          refine w_sub (lv' := [(0, .ref (κ.1 0)), (1, .int v1), (2, .long v2), (4, .int v4), (5, .int (0 : Int32))]) [1, 2, 3, 4, 0] rfl ?_
          obtain ⟨o50_24, eo50_24, h⟩ := bd h
          refine lM_sortIn_50_ok G X F v1 v2 v4 F (0 : Int32) x_first o50_24 eo50_24 ?_
          refine w_iinc (pc := 88) (q0 := 3) (v := (v4 + (-1))) (lv' := [(4, .int (v4 + (-1))), (0, .ref (κ.1 0)), (1, .int v1), (2, .long v2)]) G dM_sortIn_88 rfl rfl (by decide) rfl ?_
          refine w_goto (pc := 91) (tgt := 6) G dM_sortIn_91 (by decide) ?_
          refine w_sub (lv' := [(0, .ref (κ.1 0)), (1, .int v1), (2, .long v2), (4, .int (v4 + (-1)))]) [1, 2, 3, 0] rfl ?_
          exact ih (v4 + (-1)) o50_24 (vp_updL x_squares v4.toNatClampNeg (x_squares (v4 - (1 : Int32)).toNatClampNeg)) out h K
noncomputable def lM_sortIn_112 (F : Nat) (x_made : Nat → Int64) (v1 : Int32) (v4 : Int32) : Nat → Int32 → (Nat → Int64) → Option ((Nat → Int64))
  | 0, _, _ => none
  | n + 1, v5, x_first => if (4 : Int32) ≤ v5 then some (x_first) else gd (vp_in (v1 + v5) 20) (gd (vp_in (((4 : Int32) * v4) + v5) 164) (lM_sortIn_112 F x_made v1 v4 n (v5 + 1) (vp_updL x_first (((4 : Int32) * v4) + v5).toNatClampNeg (x_made (v1 + v5).toNatClampNeg))))
set_option maxHeartbeats 8000000 in
set_option maxRecDepth 100000 in
theorem lM_sortIn_112_ok {g : Gm} {κ : ctx} (G : OK g κ RM cM_sortIn 6 none rm_M_sortIn) (X : Nat → va_E) (F : Nat) {x_many : Int32} {x_generator : Nat → Int32} {x_known : Int32} {x_without : Int32} {x_rows : Int32} {x_row : Nat → Int64} {x_pivot : Nat → Int32} {x_fresh : Nat → Int64} {x_multiple : Nat → Int64} {x_last : Nat → Int64} {x_made : Nat → Int64} {x_settled : Nat → Int64} {x_point : Nat → Int64} {x_limit : Int64} {x_mode : Int32} {x_counted : Int32} {x_listed : Int32} {x_held : Int32} {x_squares : Nat → Int64} {x_wanted : Int32} {x_spanned : Int32} {x_span : Nat → Int64} {x_minima : Nat → Int32} {x_measured : Int32} {x_found : Nat → Int64} {x_any : Int32} (v1 : Int32) (v4 : Int32) : ∀ (n : Nat) (v5 : Int32) (x_first : Nat → Int64) (out : (Nat → Int64)), lM_sortIn_112 F x_made v1 v4 n v5 x_first = some out → (J g κ 6 145 [(0, .ref (κ.1 0))] [] (LM κ (x_many, x_generator, x_known, x_without, x_rows, x_row, x_pivot, x_fresh, x_multiple, x_last, x_made, x_settled, x_point, x_limit, x_mode, x_counted, x_listed, x_held, out, x_squares, x_wanted, x_spanned, x_span, x_minima, x_measured, x_found, x_any) X)) → J g κ 6 112 [(0, .ref (κ.1 0)), (1, .int v1), (4, .int v4), (5, .int v5)] [] (LM κ (x_many, x_generator, x_known, x_without, x_rows, x_row, x_pivot, x_fresh, x_multiple, x_last, x_made, x_settled, x_point, x_limit, x_mode, x_counted, x_listed, x_held, x_first, x_squares, x_wanted, x_spanned, x_span, x_minima, x_measured, x_found, x_any) X) := by
  intro n
  induction n with
  | zero =>
    intro v5 x_first
    intro out h
    rw [lM_sortIn_112] at h
    cases h
  | succ n ih =>
    intro v5 x_first out h K
    rw [lM_sortIn_112] at h
    refine w_iload (pc := 112) (q := 3) G dM_sortIn_112 rfl ?_
    refine w_iconst (pc := 114) (v := (4 : Int32)) G dM_sortIn_114 (by decide) ?_
    refine w_icmp_ge (pc := 115) (tgt := 145) G dM_sortIn_115 (by decide) (fun c115 => ?_) (fun c115 => ?_)
    · have h := if_t c115 h
      obtain rfl := Option.some.inj h
      refine w_sub (lv' := [(0, .ref (κ.1 0))]) [0] rfl ?_
      exact K
    · have h := if_f c115 h
      refine w_aload_n (pc := 118) (q := 0) G dM_sortIn_118 rfl rfl ?_
      refine w_get (pc := 119) (v := .ref (κ.1 10)) (fs := fl_M κ (x_many, x_generator, x_known, x_without, x_rows, x_row, x_pivot, x_fresh, x_multiple, x_last, x_made, x_settled, x_point, x_limit, x_mode, x_counted, x_listed, x_held, x_first, x_squares, x_wanted, x_spanned, x_span, x_minima, x_measured, x_found, x_any)) G 0 (by decide) lb_M rfl wsM_ok 18 (by decide) wd508 gf_M_18 dM_sortIn_119 ?_
      refine w_iconst (pc := 122) (v := (4 : Int32)) G dM_sortIn_122 (by decide) ?_
      refine w_iload (pc := 123) (q := 2) G dM_sortIn_123 rfl ?_
      refine w_imul (pc := 125) G dM_sortIn_125 ?_
      refine w_iload (pc := 126) (q := 3) G dM_sortIn_126 rfl ?_
      refine w_iadd (pc := 128) G dM_sortIn_128 ?_
      refine w_aload_n (pc := 129) (q := 0) G dM_sortIn_129 rfl rfl ?_
      refine w_get (pc := 130) (v := .ref (κ.1 7)) (fs := fl_M κ (x_many, x_generator, x_known, x_without, x_rows, x_row, x_pivot, x_fresh, x_multiple, x_last, x_made, x_settled, x_point, x_limit, x_mode, x_counted, x_listed, x_held, x_first, x_squares, x_wanted, x_spanned, x_span, x_minima, x_measured, x_found, x_any)) G 0 (by decide) lb_M rfl wsM_ok 10 (by decide) wd500 gf_M_10 dM_sortIn_130 ?_
      refine w_iload_n (pc := 133) (q := 1) G dM_sortIn_133 rfl rfl ?_
      refine w_iload (pc := 134) (q := 3) G dM_sortIn_134 rfl ?_
      refine w_iadd (pc := 136) G dM_sortIn_136 ?_
      obtain ⟨i137, h⟩ := gd_some h
      refine w_lald (pc := 137) (n := 20) (f := x_made) G 7 (by decide) lk_made i137 dM_sortIn_137 ?_
      obtain ⟨i138, h⟩ := gd_some h
      refine w_last (pc := 138) (n := 164) (f := x_first) (L1 := (LM κ (x_many, x_generator, x_known, x_without, x_rows, x_row, x_pivot, x_fresh, x_multiple, x_last, x_made, x_settled, x_point, x_limit, x_mode, x_counted, x_listed, x_held, vp_updL x_first (((4 : Int32) * v4) + v5).toNatClampNeg (x_made (v1 + v5).toNatClampNeg), x_squares, x_wanted, x_spanned, x_span, x_minima, x_measured, x_found, x_any) X)) G 10 (by decide) lk_first i138 dM_sortIn_138 up_first ?_
      refine w_iinc (pc := 139) (q0 := 3) (v := (v5 + 1)) (lv' := [(5, .int (v5 + 1)), (0, .ref (κ.1 0)), (1, .int v1), (4, .int v4)]) G dM_sortIn_139 rfl rfl (by decide) rfl ?_
      refine w_goto (pc := 142) (tgt := 112) G dM_sortIn_142 (by decide) ?_
      refine w_sub (lv' := [(0, .ref (κ.1 0)), (1, .int v1), (4, .int v4), (5, .int (v5 + 1))]) [1, 2, 3, 0] rfl ?_
      exact ih (v5 + 1) (vp_updL x_first (((4 : Int32) * v4) + v5).toNatClampNeg (x_made (v1 + v5).toNatClampNeg)) out h K
noncomputable def M_sortIn (F : Nat) (x_made : Nat → Int64) (x_held : Int32) (x_first : Nat → Int64) (x_squares : Nat → Int64) (v1 : Int32) (v2 : Int64) : Option (Int32 × (Nat → Int64) × (Nat → Int64)) := (lM_sortIn_6 F x_made v1 v2 F x_held x_first x_squares).bind (fun o6_24 => if (41 : Int32) ≤ o6_24.1 then some (x_held, o6_24.2.1, o6_24.2.2) else gd (vp_in o6_24.1 41) ((lM_sortIn_112 F x_made v1 o6_24.1 F (0 : Int32) o6_24.2.1).bind (fun o112_32 => if (41 : Int32) ≤ x_held then some (x_held, o112_32, vp_updL o6_24.2.2 o6_24.1.toNatClampNeg v2) else some ((x_held + (1 : Int32)), o112_32, vp_updL o6_24.2.2 o6_24.1.toNatClampNeg v2))))
set_option maxHeartbeats 8000000 in
set_option maxRecDepth 100000 in
theorem met_M_sortIn (κ : ctx) (X : Nat → va_E) (F : Nat) {x_many : Int32} {x_generator : Nat → Int32} {x_known : Int32} {x_without : Int32} {x_rows : Int32} {x_row : Nat → Int64} {x_pivot : Nat → Int32} {x_fresh : Nat → Int64} {x_multiple : Nat → Int64} {x_last : Nat → Int64} {x_made : Nat → Int64} {x_settled : Nat → Int64} {x_point : Nat → Int64} {x_limit : Int64} {x_mode : Int32} {x_counted : Int32} {x_listed : Int32} {x_held : Int32} {x_first : Nat → Int64} {x_squares : Nat → Int64} {x_wanted : Int32} {x_spanned : Int32} {x_span : Nat → Int64} {x_minima : Nat → Int32} {x_measured : Int32} {x_found : Nat → Int64} {x_any : Int32} (v1 : Int32) (v2 : Int64) {out : Int32 × (Nat → Int64) × (Nat → Int64)} (h : M_sortIn F x_made x_held x_first x_squares v1 v2 = some out) : Mt yM_sortIn cM_sortIn 6 none rm_M_sortIn κ [.ref (κ.1 0), .int v1, .long v2] (LM κ (x_many, x_generator, x_known, x_without, x_rows, x_row, x_pivot, x_fresh, x_multiple, x_last, x_made, x_settled, x_point, x_limit, x_mode, x_counted, x_listed, x_held, x_first, x_squares, x_wanted, x_spanned, x_span, x_minima, x_measured, x_found, x_any) X) none (LM κ (x_many, x_generator, x_known, x_without, x_rows, x_row, x_pivot, x_fresh, x_multiple, x_last, x_made, x_settled, x_point, x_limit, x_mode, x_counted, x_listed, out.1, out.2.1, out.2.2, x_wanted, x_spanned, x_span, x_minima, x_measured, x_found, x_any) X) := by
  refine Mt.of (by decide) (Nat.le_of_ble_eq_true rfl) ?_
  intro g G Fh
  unfold M_sortIn at h
  show J g κ 6 0 [(0, .ref (κ.1 0)), (1, .int v1), (2, .long v2)] [] (LM κ (x_many, x_generator, x_known, x_without, x_rows, x_row, x_pivot, x_fresh, x_multiple, x_last, x_made, x_settled, x_point, x_limit, x_mode, x_counted, x_listed, x_held, x_first, x_squares, x_wanted, x_spanned, x_span, x_minima, x_measured, x_found, x_any) X)
  refine w_aload_n (pc := 0) (q := 0) G dM_sortIn_0 rfl rfl ?_
  refine w_get (pc := 1) (v := .int x_held) (fs := fl_M κ (x_many, x_generator, x_known, x_without, x_rows, x_row, x_pivot, x_fresh, x_multiple, x_last, x_made, x_settled, x_point, x_limit, x_mode, x_counted, x_listed, x_held, x_first, x_squares, x_wanted, x_spanned, x_span, x_minima, x_measured, x_found, x_any)) G 0 (by decide) lb_M rfl wsM_ok 17 (by decide) wd507 gf_M_17 dM_sortIn_1 ?_
  refine w_istore (pc := 4) (lv' := [(4, .int x_held), (0, .ref (κ.1 0)), (1, .int v1), (2, .long v2)]) G dM_sortIn_4 (by decide) rfl ?_
  refine w_sub (lv' := [(0, .ref (κ.1 0)), (1, .int v1), (2, .long v2), (4, .int x_held)]) [1, 2, 3, 0] rfl ?_
  obtain ⟨o6_24, eo6_24, h⟩ := bd h
  refine lM_sortIn_6_ok G X F v1 v2 F x_held x_first x_squares o6_24 eo6_24 ?_
  refine w_iload (pc := 94) (q := 3) G dM_sortIn_94 rfl ?_
  refine w_bipush (pc := 96) (v := (41 : Int32)) G dM_sortIn_96 (by decide) ?_
  refine w_icmp_ge (pc := 98) (tgt := 171) G dM_sortIn_98 (by decide) (fun c98 => ?_) (fun c98 => ?_)
  · have h := if_t c98 h
    obtain rfl := Option.some.inj h
    exact w_vret (pc := 171) G dM_sortIn_171 Fh
  · have h := if_f c98 h
    refine w_aload_n (pc := 101) (q := 0) G dM_sortIn_101 rfl rfl ?_
    refine w_get (pc := 102) (v := .ref (κ.1 11)) (fs := fl_M κ (x_many, x_generator, x_known, x_without, x_rows, x_row, x_pivot, x_fresh, x_multiple, x_last, x_made, x_settled, x_point, x_limit, x_mode, x_counted, x_listed, x_held, o6_24.2.1, o6_24.2.2, x_wanted, x_spanned, x_span, x_minima, x_measured, x_found, x_any)) G 0 (by decide) lb_M rfl wsM_ok 19 (by decide) wd509 gf_M_19 dM_sortIn_102 ?_
    refine w_iload (pc := 105) (q := 3) G dM_sortIn_105 rfl ?_
    refine w_lload_n (pc := 107) (q := 2) G dM_sortIn_107 rfl rfl ?_
    obtain ⟨i108, h⟩ := gd_some h
    refine w_last (pc := 108) (n := 41) (f := o6_24.2.2) (L1 := (LM κ (x_many, x_generator, x_known, x_without, x_rows, x_row, x_pivot, x_fresh, x_multiple, x_last, x_made, x_settled, x_point, x_limit, x_mode, x_counted, x_listed, x_held, o6_24.2.1, vp_updL o6_24.2.2 o6_24.1.toNatClampNeg v2, x_wanted, x_spanned, x_span, x_minima, x_measured, x_found, x_any) X)) G 11 (by decide) lk_squares i108 dM_sortIn_108 up_squares ?_
    refine w_iconst (pc := 109) (v := (0 : Int32)) G dM_sortIn_109 (by decide) ?_
    refine w_istore (pc := 110) (lv' := [(5, .int (0 : Int32)), (0, .ref (κ.1 0)), (1, .int v1), (2, .long v2), (4, .int o6_24.1)]) G dM_sortIn_110 (by decide) rfl ?_
    refine w_sub (lv' := [(0, .ref (κ.1 0)), (1, .int v1), (4, .int o6_24.1), (5, .int (0 : Int32))]) [1, 2, 4, 0] rfl ?_
    obtain ⟨o112_32, eo112_32, h⟩ := bd h
    refine lM_sortIn_112_ok G X F v1 o6_24.1 F (0 : Int32) o6_24.2.1 o112_32 eo112_32 ?_
    refine w_aload_n (pc := 145) (q := 0) G dM_sortIn_145 rfl rfl ?_
    refine w_aload_n (pc := 146) (q := 0) G dM_sortIn_146 rfl rfl ?_
    refine w_get (pc := 147) (v := .int x_held) (fs := fl_M κ (x_many, x_generator, x_known, x_without, x_rows, x_row, x_pivot, x_fresh, x_multiple, x_last, x_made, x_settled, x_point, x_limit, x_mode, x_counted, x_listed, x_held, o112_32, vp_updL o6_24.2.2 o6_24.1.toNatClampNeg v2, x_wanted, x_spanned, x_span, x_minima, x_measured, x_found, x_any)) G 0 (by decide) lb_M rfl wsM_ok 17 (by decide) wd507 gf_M_17 dM_sortIn_147 ?_
    refine w_bipush (pc := 150) (v := (41 : Int32)) G dM_sortIn_150 (by decide) ?_
    refine w_icmp_ge (pc := 152) (tgt := 164) G dM_sortIn_152 (by decide) (fun c152 => ?_) (fun c152 => ?_)
    · have h := if_t c152 h
      refine w_aload_n (pc := 164) (q := 0) G dM_sortIn_164 rfl rfl ?_
      refine w_get (pc := 165) (v := .int x_held) (fs := fl_M κ (x_many, x_generator, x_known, x_without, x_rows, x_row, x_pivot, x_fresh, x_multiple, x_last, x_made, x_settled, x_point, x_limit, x_mode, x_counted, x_listed, x_held, o112_32, vp_updL o6_24.2.2 o6_24.1.toNatClampNeg v2, x_wanted, x_spanned, x_span, x_minima, x_measured, x_found, x_any)) G 0 (by decide) lb_M rfl wsM_ok 17 (by decide) wd507 gf_M_17 dM_sortIn_165 ?_
      refine w_put (pc := 168) (fs := fl_M κ (x_many, x_generator, x_known, x_without, x_rows, x_row, x_pivot, x_fresh, x_multiple, x_last, x_made, x_settled, x_point, x_limit, x_mode, x_counted, x_listed, x_held, o112_32, vp_updL o6_24.2.2 o6_24.1.toNatClampNeg v2, x_wanted, x_spanned, x_span, x_minima, x_measured, x_found, x_any)) (L1 := (LM κ (x_many, x_generator, x_known, x_without, x_rows, x_row, x_pivot, x_fresh, x_multiple, x_last, x_made, x_settled, x_point, x_limit, x_mode, x_counted, x_listed, x_held, o112_32, vp_updL o6_24.2.2 o6_24.1.toNatClampNeg v2, x_wanted, x_spanned, x_span, x_minima, x_measured, x_found, x_any) X)) G 0 (by decide) lb_M rfl wsM_ok tyM tyM_ok nmM 17 (by decide) wd507 rfl rfl rfl (Nat.le_of_ble_eq_true rfl) dM_sortIn_168 upf_held ?_
      obtain rfl := Option.some.inj h
      exact w_vret (pc := 171) G dM_sortIn_171 Fh
    · have h := if_f c152 h
      refine w_aload_n (pc := 155) (q := 0) G dM_sortIn_155 rfl rfl ?_
      refine w_get (pc := 156) (v := .int x_held) (fs := fl_M κ (x_many, x_generator, x_known, x_without, x_rows, x_row, x_pivot, x_fresh, x_multiple, x_last, x_made, x_settled, x_point, x_limit, x_mode, x_counted, x_listed, x_held, o112_32, vp_updL o6_24.2.2 o6_24.1.toNatClampNeg v2, x_wanted, x_spanned, x_span, x_minima, x_measured, x_found, x_any)) G 0 (by decide) lb_M rfl wsM_ok 17 (by decide) wd507 gf_M_17 dM_sortIn_156 ?_
      refine w_iconst (pc := 159) (v := (1 : Int32)) G dM_sortIn_159 (by decide) ?_
      refine w_iadd (pc := 160) G dM_sortIn_160 ?_
      refine w_goto (pc := 161) (tgt := 168) G dM_sortIn_161 (by decide) ?_
      refine w_put (pc := 168) (fs := fl_M κ (x_many, x_generator, x_known, x_without, x_rows, x_row, x_pivot, x_fresh, x_multiple, x_last, x_made, x_settled, x_point, x_limit, x_mode, x_counted, x_listed, x_held, o112_32, vp_updL o6_24.2.2 o6_24.1.toNatClampNeg v2, x_wanted, x_spanned, x_span, x_minima, x_measured, x_found, x_any)) (L1 := (LM κ (x_many, x_generator, x_known, x_without, x_rows, x_row, x_pivot, x_fresh, x_multiple, x_last, x_made, x_settled, x_point, x_limit, x_mode, x_counted, x_listed, (x_held + (1 : Int32)), o112_32, vp_updL o6_24.2.2 o6_24.1.toNatClampNeg v2, x_wanted, x_spanned, x_span, x_minima, x_measured, x_found, x_any) X)) G 0 (by decide) lb_M rfl wsM_ok tyM tyM_ok nmM 17 (by decide) wd507 rfl rfl rfl (Nat.le_of_ble_eq_true rfl) dM_sortIn_168 upf_held ?_
      obtain rfl := Option.some.inj h
      exact w_vret (pc := 171) G dM_sortIn_171 Fh
def rm_M_lead : Room := { frames := 0, cells := 0, slots := 0, locals := 0 }
theorem dM_lead_0 : decode cM_lead 0 = .ok (.iconst 0, 1) := by decide +kernel
theorem dM_lead_1 : decode cM_lead 1 = .ok (.istore_n 2, 1) := by decide +kernel
theorem dM_lead_2 : decode cM_lead 2 = .ok (.aload_n 0, 1) := by decide +kernel
theorem dM_lead_3 : decode cM_lead 3 = .ok (.getfield 44, 3) := by decide +kernel
theorem dM_lead_6 : decode cM_lead 6 = .ok (.iload_n 1, 1) := by decide +kernel
theorem dM_lead_7 : decode cM_lead 7 = .ok (.iload_n 2, 1) := by decide +kernel
theorem dM_lead_8 : decode cM_lead 8 = .ok (.iadd, 1) := by decide +kernel
theorem dM_lead_9 : decode cM_lead 9 = .ok (.laload, 1) := by decide +kernel
theorem dM_lead_10 : decode cM_lead 10 = .ok (.lconst 0, 1) := by decide +kernel
theorem dM_lead_11 : decode cM_lead 11 = .ok (.lcmp, 1) := by decide +kernel
theorem dM_lead_12 : decode cM_lead 12 = .ok (.ifCond .ne 9, 3) := by decide +kernel
theorem dM_lead_15 : decode cM_lead 15 = .ok (.iinc 2 1, 3) := by decide +kernel
theorem dM_lead_18 : decode cM_lead 18 = .ok (.goto (-16), 3) := by decide +kernel
theorem dM_lead_21 : decode cM_lead 21 = .ok (.iload_n 2, 1) := by decide +kernel
theorem dM_lead_22 : decode cM_lead 22 = .ok (.ireturn, 1) := by decide +kernel
noncomputable def lM_lead_2 (F : Nat) (x_span : Nat → Int64) (v1 : Int32) : Nat → Int32 → Option (Int32)
  | 0, _ => none
  | n + 1, v2 => gd (vp_in (v1 + v2) 16) (if (x_span (v1 + v2).toNatClampNeg) = (0 : Int64) then lM_lead_2 F x_span v1 n (v2 + 1) else some (v2))
set_option maxHeartbeats 8000000 in
set_option maxRecDepth 100000 in
theorem lM_lead_2_ok {g : Gm} {κ : ctx} (G : OK g κ RM cM_lead 3 (some .int) rm_M_lead) (X : Nat → va_E) (F : Nat) {x_many : Int32} {x_generator : Nat → Int32} {x_known : Int32} {x_without : Int32} {x_rows : Int32} {x_row : Nat → Int64} {x_pivot : Nat → Int32} {x_fresh : Nat → Int64} {x_multiple : Nat → Int64} {x_last : Nat → Int64} {x_made : Nat → Int64} {x_settled : Nat → Int64} {x_point : Nat → Int64} {x_limit : Int64} {x_mode : Int32} {x_counted : Int32} {x_listed : Int32} {x_held : Int32} {x_first : Nat → Int64} {x_squares : Nat → Int64} {x_wanted : Int32} {x_spanned : Int32} {x_span : Nat → Int64} {x_minima : Nat → Int32} {x_measured : Int32} {x_found : Nat → Int64} {x_any : Int32} (v1 : Int32) : ∀ (n : Nat) (v2 : Int32) (out : Int32), lM_lead_2 F x_span v1 n v2 = some out → (J g κ 3 21 [(2, .int out)] [] (LM κ (x_many, x_generator, x_known, x_without, x_rows, x_row, x_pivot, x_fresh, x_multiple, x_last, x_made, x_settled, x_point, x_limit, x_mode, x_counted, x_listed, x_held, x_first, x_squares, x_wanted, x_spanned, x_span, x_minima, x_measured, x_found, x_any) X)) → J g κ 3 2 [(0, .ref (κ.1 0)), (1, .int v1), (2, .int v2)] [] (LM κ (x_many, x_generator, x_known, x_without, x_rows, x_row, x_pivot, x_fresh, x_multiple, x_last, x_made, x_settled, x_point, x_limit, x_mode, x_counted, x_listed, x_held, x_first, x_squares, x_wanted, x_spanned, x_span, x_minima, x_measured, x_found, x_any) X) := by
  intro n
  induction n with
  | zero =>
    intro v2
    intro out h
    rw [lM_lead_2] at h
    cases h
  | succ n ih =>
    intro v2 out h K
    rw [lM_lead_2] at h
    refine w_aload_n (pc := 2) (q := 0) G dM_lead_2 rfl rfl ?_
    refine w_get (pc := 3) (v := .ref (κ.1 12)) (fs := fl_M κ (x_many, x_generator, x_known, x_without, x_rows, x_row, x_pivot, x_fresh, x_multiple, x_last, x_made, x_settled, x_point, x_limit, x_mode, x_counted, x_listed, x_held, x_first, x_squares, x_wanted, x_spanned, x_span, x_minima, x_measured, x_found, x_any)) G 0 (by decide) lb_M rfl wsM_ok 22 (by decide) wd512 gf_M_22 dM_lead_3 ?_
    refine w_iload_n (pc := 6) (q := 1) G dM_lead_6 rfl rfl ?_
    refine w_iload_n (pc := 7) (q := 2) G dM_lead_7 rfl rfl ?_
    refine w_iadd (pc := 8) G dM_lead_8 ?_
    obtain ⟨i9, h⟩ := gd_some h
    refine w_lald (pc := 9) (n := 16) (f := x_span) G 12 (by decide) lk_span i9 dM_lead_9 ?_
    refine w_lconst (pc := 10) (v := (0 : Int64)) G dM_lead_10 (by decide) ?_
    refine w_lc_ne (pc := 11) (tgt := 21) G dM_lead_11 dM_lead_12 (by decide) (fun c11 => ?_) (fun c11 => ?_)
    · have h := if_t c11 h
      refine w_iinc (pc := 15) (q0 := 2) (v := (v2 + 1)) (lv' := [(2, .int (v2 + 1)), (0, .ref (κ.1 0)), (1, .int v1)]) G dM_lead_15 rfl rfl (by decide) rfl ?_
      refine w_goto (pc := 18) (tgt := 2) G dM_lead_18 (by decide) ?_
      refine w_sub (lv' := [(0, .ref (κ.1 0)), (1, .int v1), (2, .int (v2 + 1))]) [1, 2, 0] rfl ?_
      exact ih (v2 + 1) out h K
    · have h := if_f c11 h
      obtain rfl := Option.some.inj h
      refine w_sub (lv' := [(2, .int v2)]) [2] rfl ?_
      exact K
noncomputable def M_lead (F : Nat) (x_span : Nat → Int64) (v1 : Int32) : Option (Int32) := (lM_lead_2 F x_span v1 F (0 : Int32)).bind (fun o2_7 => some o2_7)
set_option maxHeartbeats 8000000 in
set_option maxRecDepth 100000 in
theorem met_M_lead (κ : ctx) (X : Nat → va_E) (F : Nat) {x_many : Int32} {x_generator : Nat → Int32} {x_known : Int32} {x_without : Int32} {x_rows : Int32} {x_row : Nat → Int64} {x_pivot : Nat → Int32} {x_fresh : Nat → Int64} {x_multiple : Nat → Int64} {x_last : Nat → Int64} {x_made : Nat → Int64} {x_settled : Nat → Int64} {x_point : Nat → Int64} {x_limit : Int64} {x_mode : Int32} {x_counted : Int32} {x_listed : Int32} {x_held : Int32} {x_first : Nat → Int64} {x_squares : Nat → Int64} {x_wanted : Int32} {x_spanned : Int32} {x_span : Nat → Int64} {x_minima : Nat → Int32} {x_measured : Int32} {x_found : Nat → Int64} {x_any : Int32} (v1 : Int32) {out : Int32} (h : M_lead F x_span v1 = some out) : Mt yM_lead cM_lead 3 (some .int) rm_M_lead κ [.ref (κ.1 0), .int v1] (LM κ (x_many, x_generator, x_known, x_without, x_rows, x_row, x_pivot, x_fresh, x_multiple, x_last, x_made, x_settled, x_point, x_limit, x_mode, x_counted, x_listed, x_held, x_first, x_squares, x_wanted, x_spanned, x_span, x_minima, x_measured, x_found, x_any) X) (some (.int out)) (LM κ (x_many, x_generator, x_known, x_without, x_rows, x_row, x_pivot, x_fresh, x_multiple, x_last, x_made, x_settled, x_point, x_limit, x_mode, x_counted, x_listed, x_held, x_first, x_squares, x_wanted, x_spanned, x_span, x_minima, x_measured, x_found, x_any) X) := by
  refine Mt.of (by decide) (Nat.le_of_ble_eq_true rfl) ?_
  intro g G Fh
  unfold M_lead at h
  show J g κ 3 0 [(0, .ref (κ.1 0)), (1, .int v1)] [] (LM κ (x_many, x_generator, x_known, x_without, x_rows, x_row, x_pivot, x_fresh, x_multiple, x_last, x_made, x_settled, x_point, x_limit, x_mode, x_counted, x_listed, x_held, x_first, x_squares, x_wanted, x_spanned, x_span, x_minima, x_measured, x_found, x_any) X)
  refine w_iconst (pc := 0) (v := (0 : Int32)) G dM_lead_0 (by decide) ?_
  refine w_istore_n (pc := 1) (lv' := [(2, .int (0 : Int32)), (0, .ref (κ.1 0)), (1, .int v1)]) G dM_lead_1 rfl (by decide) rfl ?_
  refine w_sub (lv' := [(0, .ref (κ.1 0)), (1, .int v1), (2, .int (0 : Int32))]) [1, 2, 0] rfl ?_
  obtain ⟨o2_7, eo2_7, h⟩ := bd h
  refine lM_lead_2_ok G X F v1 F (0 : Int32) o2_7 eo2_7 ?_
  refine w_iload_n (pc := 21) (q := 0) G dM_lead_21 rfl rfl ?_
  obtain rfl := Option.some.inj h
  exact w_iret (pc := 22) G dM_lead_22 Fh
def rm_M_shrink : Room := { frames := 1, cells := 0, slots := 0, locals := 29 }
theorem dM_shrink_0 : decode cM_shrink 0 = .ok (.lconst 0, 1) := by decide +kernel
theorem dM_shrink_1 : decode cM_shrink 1 = .ok (.lstore_n 1, 1) := by decide +kernel
theorem dM_shrink_2 : decode cM_shrink 2 = .ok (.iconst 0, 1) := by decide +kernel
theorem dM_shrink_3 : decode cM_shrink 3 = .ok (.istore_n 3, 1) := by decide +kernel
theorem dM_shrink_4 : decode cM_shrink 4 = .ok (.iload_n 3, 1) := by decide +kernel
theorem dM_shrink_5 : decode cM_shrink 5 = .ok (.iconst 4, 1) := by decide +kernel
theorem dM_shrink_6 : decode cM_shrink 6 = .ok (.if_icmp .ge 20, 3) := by decide +kernel
theorem dM_shrink_9 : decode cM_shrink 9 = .ok (.lload_n 1, 1) := by decide +kernel
theorem dM_shrink_10 : decode cM_shrink 10 = .ok (.aload_n 0, 1) := by decide +kernel
theorem dM_shrink_11 : decode cM_shrink 11 = .ok (.getfield 20, 3) := by decide +kernel
theorem dM_shrink_14 : decode cM_shrink 14 = .ok (.iload_n 3, 1) := by decide +kernel
theorem dM_shrink_15 : decode cM_shrink 15 = .ok (.laload, 1) := by decide +kernel
theorem dM_shrink_16 : decode cM_shrink 16 = .ok (.invokestatic 104, 3) := by decide +kernel
theorem dM_shrink_19 : decode cM_shrink 19 = .ok (.lstore_n 1, 1) := by decide +kernel
theorem dM_shrink_20 : decode cM_shrink 20 = .ok (.iinc 3 1, 3) := by decide +kernel
theorem dM_shrink_23 : decode cM_shrink 23 = .ok (.goto (-19), 3) := by decide +kernel
theorem dM_shrink_26 : decode cM_shrink 26 = .ok (.iconst 0, 1) := by decide +kernel
theorem dM_shrink_27 : decode cM_shrink 27 = .ok (.istore_n 3, 1) := by decide +kernel
theorem dM_shrink_28 : decode cM_shrink 28 = .ok (.iload_n 3, 1) := by decide +kernel
theorem dM_shrink_29 : decode cM_shrink 29 = .ok (.iconst 4, 1) := by decide +kernel
theorem dM_shrink_30 : decode cM_shrink 30 = .ok (.if_icmp .ge 29, 3) := by decide +kernel
theorem dM_shrink_33 : decode cM_shrink 33 = .ok (.lload_n 1, 1) := by decide +kernel
theorem dM_shrink_34 : decode cM_shrink 34 = .ok (.lconst 1, 1) := by decide +kernel
theorem dM_shrink_35 : decode cM_shrink 35 = .ok (.lcmp, 1) := by decide +kernel
theorem dM_shrink_36 : decode cM_shrink 36 = .ok (.ifCond .le 23, 3) := by decide +kernel
theorem dM_shrink_39 : decode cM_shrink 39 = .ok (.aload_n 0, 1) := by decide +kernel
theorem dM_shrink_40 : decode cM_shrink 40 = .ok (.getfield 20, 3) := by decide +kernel
theorem dM_shrink_43 : decode cM_shrink 43 = .ok (.iload_n 3, 1) := by decide +kernel
theorem dM_shrink_44 : decode cM_shrink 44 = .ok (.aload_n 0, 1) := by decide +kernel
theorem dM_shrink_45 : decode cM_shrink 45 = .ok (.getfield 20, 3) := by decide +kernel
theorem dM_shrink_48 : decode cM_shrink 48 = .ok (.iload_n 3, 1) := by decide +kernel
theorem dM_shrink_49 : decode cM_shrink 49 = .ok (.laload, 1) := by decide +kernel
theorem dM_shrink_50 : decode cM_shrink 50 = .ok (.lload_n 1, 1) := by decide +kernel
theorem dM_shrink_51 : decode cM_shrink 51 = .ok (.ldiv, 1) := by decide +kernel
theorem dM_shrink_52 : decode cM_shrink 52 = .ok (.lastore, 1) := by decide +kernel
theorem dM_shrink_53 : decode cM_shrink 53 = .ok (.iinc 3 1, 3) := by decide +kernel
theorem dM_shrink_56 : decode cM_shrink 56 = .ok (.goto (-28), 3) := by decide +kernel
theorem dM_shrink_59 : decode cM_shrink 59 = .ok (.return_, 1) := by decide +kernel
theorem cb_M_common_M_shrink : CB yM_common cM_common 10 (some .long) rm_M_common rm_M_shrink 2 := ⟨wd652, wd8, by decide +kernel, rfl, rfl, by decide⟩
noncomputable def lM_shrink_4 (F : Nat) (x_fresh : Nat → Int64) : Nat → Int64 → Int32 → Option (Int64)
  | 0, _, _ => none
  | n + 1, v1, v3 => if (4 : Int32) ≤ v3 then some (v1) else gd (vp_in v3 4) ((M_common F  v1 (x_fresh v3.toNatClampNeg)).bind (fun r16 => lM_shrink_4 F x_fresh n r16 (v3 + 1)))
set_option maxHeartbeats 8000000 in
set_option maxRecDepth 100000 in
theorem lM_shrink_4_ok {g : Gm} {κ : ctx} (G : OK g κ RM cM_shrink 4 none rm_M_shrink) (X : Nat → va_E) (F : Nat) {x_many : Int32} {x_generator : Nat → Int32} {x_known : Int32} {x_without : Int32} {x_rows : Int32} {x_row : Nat → Int64} {x_pivot : Nat → Int32} {x_fresh : Nat → Int64} {x_multiple : Nat → Int64} {x_last : Nat → Int64} {x_made : Nat → Int64} {x_settled : Nat → Int64} {x_point : Nat → Int64} {x_limit : Int64} {x_mode : Int32} {x_counted : Int32} {x_listed : Int32} {x_held : Int32} {x_first : Nat → Int64} {x_squares : Nat → Int64} {x_wanted : Int32} {x_spanned : Int32} {x_span : Nat → Int64} {x_minima : Nat → Int32} {x_measured : Int32} {x_found : Nat → Int64} {x_any : Int32} : ∀ (n : Nat) (v1 : Int64) (v3 : Int32) (out : Int64), lM_shrink_4 F x_fresh  n v1 v3 = some out → (J g κ 4 26 [(0, .ref (κ.1 0)), (1, .long out)] [] (LM κ (x_many, x_generator, x_known, x_without, x_rows, x_row, x_pivot, x_fresh, x_multiple, x_last, x_made, x_settled, x_point, x_limit, x_mode, x_counted, x_listed, x_held, x_first, x_squares, x_wanted, x_spanned, x_span, x_minima, x_measured, x_found, x_any) X)) → J g κ 4 4 [(0, .ref (κ.1 0)), (1, .long v1), (3, .int v3)] [] (LM κ (x_many, x_generator, x_known, x_without, x_rows, x_row, x_pivot, x_fresh, x_multiple, x_last, x_made, x_settled, x_point, x_limit, x_mode, x_counted, x_listed, x_held, x_first, x_squares, x_wanted, x_spanned, x_span, x_minima, x_measured, x_found, x_any) X) := by
  intro n
  induction n with
  | zero =>
    intro v1 v3
    intro out h
    rw [lM_shrink_4] at h
    cases h
  | succ n ih =>
    intro v1 v3 out h K
    rw [lM_shrink_4] at h
    refine w_iload_n (pc := 4) (q := 2) G dM_shrink_4 rfl rfl ?_
    refine w_iconst (pc := 5) (v := (4 : Int32)) G dM_shrink_5 (by decide) ?_
    refine w_icmp_ge (pc := 6) (tgt := 26) G dM_shrink_6 (by decide) (fun c6 => ?_) (fun c6 => ?_)
    · have h := if_t c6 h
      obtain rfl := Option.some.inj h
      refine w_sub (lv' := [(0, .ref (κ.1 0)), (1, .long v1)]) [0, 1] rfl ?_
      exact K
    · have h := if_f c6 h
      refine w_lload_n (pc := 9) (q := 1) G dM_shrink_9 rfl rfl ?_
      refine w_aload_n (pc := 10) (q := 0) G dM_shrink_10 rfl rfl ?_
      refine w_get (pc := 11) (v := .ref (κ.1 4)) (fs := fl_M κ (x_many, x_generator, x_known, x_without, x_rows, x_row, x_pivot, x_fresh, x_multiple, x_last, x_made, x_settled, x_point, x_limit, x_mode, x_counted, x_listed, x_held, x_first, x_squares, x_wanted, x_spanned, x_span, x_minima, x_measured, x_found, x_any)) G 0 (by decide) lb_M rfl wsM_ok 7 (by decide) wd497 gf_M_7 dM_shrink_11 ?_
      refine w_iload_n (pc := 14) (q := 2) G dM_shrink_14 rfl rfl ?_
      obtain ⟨i15, h⟩ := gd_some h
      refine w_lald (pc := 15) (n := 4) (f := x_fresh) G 4 (by decide) lk_fresh i15 dM_shrink_15 ?_
      obtain ⟨r16, e16, h⟩ := bd h
      refine w_callS (pc := 16) (av := [.long v1, .long (x_fresh v3.toNatClampNeg)]) (rest := []) (v := some (.long r16)) (L' := (LM κ (x_many, x_generator, x_known, x_without, x_rows, x_row, x_pivot, x_fresh, x_multiple, x_last, x_made, x_settled, x_point, x_limit, x_mode, x_counted, x_listed, x_held, x_first, x_squares, x_wanted, x_spanned, x_span, x_minima, x_measured, x_found, x_any) X)) G cb_M_common_M_shrink wd651 wd650 (met_M_common κ (LM κ (x_many, x_generator, x_known, x_without, x_rows, x_row, x_pivot, x_fresh, x_multiple, x_last, x_made, x_settled, x_point, x_limit, x_mode, x_counted, x_listed, x_held, x_first, x_squares, x_wanted, x_spanned, x_span, x_minima, x_measured, x_found, x_any) X) F v1 (x_fresh v3.toNatClampNeg)  e16) rfl rfl rfl (Nat.le_of_ble_eq_true rfl) dM_shrink_16 ?_
      refine w_lstore_n (pc := 19) (lv' := [(1, .long r16), (0, .ref (κ.1 0)), (3, .int v3)]) G dM_shrink_19 rfl (by decide) rfl ?_
      refine w_iinc (pc := 20) (q0 := 2) (v := (v3 + 1)) (lv' := [(3, .int (v3 + 1)), (1, .long r16), (0, .ref (κ.1 0))]) G dM_shrink_20 rfl rfl (by decide) rfl ?_
      refine w_goto (pc := 23) (tgt := 4) G dM_shrink_23 (by decide) ?_
      refine w_sub (lv' := [(0, .ref (κ.1 0)), (1, .long r16), (3, .int (v3 + 1))]) [2, 1, 0] rfl ?_
      exact ih r16 (v3 + 1) out h K
noncomputable def lM_shrink_28 (F : Nat) (v1 : Int64) : Nat → Int32 → (Nat → Int64) → Option ((Nat → Int64))
  | 0, _, _ => none
  | n + 1, v3, x_fresh => if (4 : Int32) ≤ v3 then some (x_fresh) else if v1 ≤ (1 : Int64) then some (x_fresh) else gd (vp_in v3 4) (gd (¬ v1 = 0) (gd (vp_in v3 4) (lM_shrink_28 F v1 n (v3 + 1) (vp_updL x_fresh v3.toNatClampNeg ((x_fresh v3.toNatClampNeg) / v1)))))
set_option maxHeartbeats 8000000 in
set_option maxRecDepth 100000 in
theorem lM_shrink_28_ok {g : Gm} {κ : ctx} (G : OK g κ RM cM_shrink 4 none rm_M_shrink) (X : Nat → va_E) (F : Nat) {x_many : Int32} {x_generator : Nat → Int32} {x_known : Int32} {x_without : Int32} {x_rows : Int32} {x_row : Nat → Int64} {x_pivot : Nat → Int32} {x_multiple : Nat → Int64} {x_last : Nat → Int64} {x_made : Nat → Int64} {x_settled : Nat → Int64} {x_point : Nat → Int64} {x_limit : Int64} {x_mode : Int32} {x_counted : Int32} {x_listed : Int32} {x_held : Int32} {x_first : Nat → Int64} {x_squares : Nat → Int64} {x_wanted : Int32} {x_spanned : Int32} {x_span : Nat → Int64} {x_minima : Nat → Int32} {x_measured : Int32} {x_found : Nat → Int64} {x_any : Int32} (v1 : Int64) : ∀ (n : Nat) (v3 : Int32) (x_fresh : Nat → Int64) (out : (Nat → Int64)), lM_shrink_28 F  v1 n v3 x_fresh = some out → (J g κ 4 59 [] [] (LM κ (x_many, x_generator, x_known, x_without, x_rows, x_row, x_pivot, out, x_multiple, x_last, x_made, x_settled, x_point, x_limit, x_mode, x_counted, x_listed, x_held, x_first, x_squares, x_wanted, x_spanned, x_span, x_minima, x_measured, x_found, x_any) X)) → J g κ 4 28 [(0, .ref (κ.1 0)), (1, .long v1), (3, .int v3)] [] (LM κ (x_many, x_generator, x_known, x_without, x_rows, x_row, x_pivot, x_fresh, x_multiple, x_last, x_made, x_settled, x_point, x_limit, x_mode, x_counted, x_listed, x_held, x_first, x_squares, x_wanted, x_spanned, x_span, x_minima, x_measured, x_found, x_any) X) := by
  intro n
  induction n with
  | zero =>
    intro v3 x_fresh
    intro out h
    rw [lM_shrink_28] at h
    cases h
  | succ n ih =>
    intro v3 x_fresh out h K
    rw [lM_shrink_28] at h
    refine w_iload_n (pc := 28) (q := 2) G dM_shrink_28 rfl rfl ?_
    refine w_iconst (pc := 29) (v := (4 : Int32)) G dM_shrink_29 (by decide) ?_
    refine w_icmp_ge (pc := 30) (tgt := 59) G dM_shrink_30 (by decide) (fun c30 => ?_) (fun c30 => ?_)
    · have h := if_t c30 h
      obtain rfl := Option.some.inj h
      refine w_sub (lv' := []) [] rfl ?_
      exact K
    · have h := if_f c30 h
      refine w_lload_n (pc := 33) (q := 1) G dM_shrink_33 rfl rfl ?_
      refine w_lconst (pc := 34) (v := (1 : Int64)) G dM_shrink_34 (by decide) ?_
      refine w_lc_le (pc := 35) (tgt := 59) G dM_shrink_35 dM_shrink_36 (by decide) (fun c35 => ?_) (fun c35 => ?_)
      · have h := if_t c35 h
        obtain rfl := Option.some.inj h
        refine w_sub (lv' := []) [] rfl ?_
        exact K
      · have h := if_f c35 h
        refine w_aload_n (pc := 39) (q := 0) G dM_shrink_39 rfl rfl ?_
        refine w_get (pc := 40) (v := .ref (κ.1 4)) (fs := fl_M κ (x_many, x_generator, x_known, x_without, x_rows, x_row, x_pivot, x_fresh, x_multiple, x_last, x_made, x_settled, x_point, x_limit, x_mode, x_counted, x_listed, x_held, x_first, x_squares, x_wanted, x_spanned, x_span, x_minima, x_measured, x_found, x_any)) G 0 (by decide) lb_M rfl wsM_ok 7 (by decide) wd497 gf_M_7 dM_shrink_40 ?_
        refine w_iload_n (pc := 43) (q := 2) G dM_shrink_43 rfl rfl ?_
        refine w_aload_n (pc := 44) (q := 0) G dM_shrink_44 rfl rfl ?_
        refine w_get (pc := 45) (v := .ref (κ.1 4)) (fs := fl_M κ (x_many, x_generator, x_known, x_without, x_rows, x_row, x_pivot, x_fresh, x_multiple, x_last, x_made, x_settled, x_point, x_limit, x_mode, x_counted, x_listed, x_held, x_first, x_squares, x_wanted, x_spanned, x_span, x_minima, x_measured, x_found, x_any)) G 0 (by decide) lb_M rfl wsM_ok 7 (by decide) wd497 gf_M_7 dM_shrink_45 ?_
        refine w_iload_n (pc := 48) (q := 2) G dM_shrink_48 rfl rfl ?_
        obtain ⟨i49, h⟩ := gd_some h
        refine w_lald (pc := 49) (n := 4) (f := x_fresh) G 4 (by decide) lk_fresh i49 dM_shrink_49 ?_
        refine w_lload_n (pc := 50) (q := 1) G dM_shrink_50 rfl rfl ?_
        obtain ⟨z51, h⟩ := gd_some h
        refine w_ldiv (pc := 51) G dM_shrink_51 z51 ?_
        obtain ⟨i52, h⟩ := gd_some h
        refine w_last (pc := 52) (n := 4) (f := x_fresh) (L1 := (LM κ (x_many, x_generator, x_known, x_without, x_rows, x_row, x_pivot, vp_updL x_fresh v3.toNatClampNeg ((x_fresh v3.toNatClampNeg) / v1), x_multiple, x_last, x_made, x_settled, x_point, x_limit, x_mode, x_counted, x_listed, x_held, x_first, x_squares, x_wanted, x_spanned, x_span, x_minima, x_measured, x_found, x_any) X)) G 4 (by decide) lk_fresh i52 dM_shrink_52 up_fresh ?_
        refine w_iinc (pc := 53) (q0 := 2) (v := (v3 + 1)) (lv' := [(3, .int (v3 + 1)), (0, .ref (κ.1 0)), (1, .long v1)]) G dM_shrink_53 rfl rfl (by decide) rfl ?_
        refine w_goto (pc := 56) (tgt := 28) G dM_shrink_56 (by decide) ?_
        refine w_sub (lv' := [(0, .ref (κ.1 0)), (1, .long v1), (3, .int (v3 + 1))]) [1, 2, 0] rfl ?_
        exact ih (v3 + 1) (vp_updL x_fresh v3.toNatClampNeg ((x_fresh v3.toNatClampNeg) / v1)) out h K
noncomputable def M_shrink (F : Nat) (x_fresh : Nat → Int64)  : Option ((Nat → Int64)) := (lM_shrink_4 F x_fresh F (0 : Int64) (0 : Int32)).bind (fun o4_7 => (lM_shrink_28 F o4_7 F (0 : Int32) x_fresh).bind (fun o28_17 => some o28_17))
set_option maxHeartbeats 8000000 in
set_option maxRecDepth 100000 in
theorem met_M_shrink (κ : ctx) (X : Nat → va_E) (F : Nat) {x_many : Int32} {x_generator : Nat → Int32} {x_known : Int32} {x_without : Int32} {x_rows : Int32} {x_row : Nat → Int64} {x_pivot : Nat → Int32} {x_fresh : Nat → Int64} {x_multiple : Nat → Int64} {x_last : Nat → Int64} {x_made : Nat → Int64} {x_settled : Nat → Int64} {x_point : Nat → Int64} {x_limit : Int64} {x_mode : Int32} {x_counted : Int32} {x_listed : Int32} {x_held : Int32} {x_first : Nat → Int64} {x_squares : Nat → Int64} {x_wanted : Int32} {x_spanned : Int32} {x_span : Nat → Int64} {x_minima : Nat → Int32} {x_measured : Int32} {x_found : Nat → Int64} {x_any : Int32}  {out : (Nat → Int64)} (h : M_shrink F x_fresh  = some out) : Mt yM_shrink cM_shrink 4 none rm_M_shrink κ [.ref (κ.1 0)] (LM κ (x_many, x_generator, x_known, x_without, x_rows, x_row, x_pivot, x_fresh, x_multiple, x_last, x_made, x_settled, x_point, x_limit, x_mode, x_counted, x_listed, x_held, x_first, x_squares, x_wanted, x_spanned, x_span, x_minima, x_measured, x_found, x_any) X) none (LM κ (x_many, x_generator, x_known, x_without, x_rows, x_row, x_pivot, out, x_multiple, x_last, x_made, x_settled, x_point, x_limit, x_mode, x_counted, x_listed, x_held, x_first, x_squares, x_wanted, x_spanned, x_span, x_minima, x_measured, x_found, x_any) X) := by
  refine Mt.of (by decide) (Nat.le_of_ble_eq_true rfl) ?_
  intro g G Fh
  unfold M_shrink at h
  show J g κ 4 0 [(0, .ref (κ.1 0))] [] (LM κ (x_many, x_generator, x_known, x_without, x_rows, x_row, x_pivot, x_fresh, x_multiple, x_last, x_made, x_settled, x_point, x_limit, x_mode, x_counted, x_listed, x_held, x_first, x_squares, x_wanted, x_spanned, x_span, x_minima, x_measured, x_found, x_any) X)
  refine w_lconst (pc := 0) (v := (0 : Int64)) G dM_shrink_0 (by decide) ?_
  refine w_lstore_n (pc := 1) (lv' := [(1, .long (0 : Int64)), (0, .ref (κ.1 0))]) G dM_shrink_1 rfl (by decide) rfl ?_
  refine w_iconst (pc := 2) (v := (0 : Int32)) G dM_shrink_2 (by decide) ?_
  refine w_istore_n (pc := 3) (lv' := [(3, .int (0 : Int32)), (1, .long (0 : Int64)), (0, .ref (κ.1 0))]) G dM_shrink_3 rfl (by decide) rfl ?_
  refine w_sub (lv' := [(0, .ref (κ.1 0)), (1, .long (0 : Int64)), (3, .int (0 : Int32))]) [2, 1, 0] rfl ?_
  obtain ⟨o4_7, eo4_7, h⟩ := bd h
  refine lM_shrink_4_ok G X F F (0 : Int64) (0 : Int32) o4_7 eo4_7 ?_
  refine w_iconst (pc := 26) (v := (0 : Int32)) G dM_shrink_26 (by decide) ?_
  refine w_istore_n (pc := 27) (lv' := [(3, .int (0 : Int32)), (0, .ref (κ.1 0)), (1, .long o4_7)]) G dM_shrink_27 rfl (by decide) rfl ?_
  refine w_sub (lv' := [(0, .ref (κ.1 0)), (1, .long o4_7), (3, .int (0 : Int32))]) [1, 2, 0] rfl ?_
  obtain ⟨o28_17, eo28_17, h⟩ := bd h
  refine lM_shrink_28_ok G X F o4_7 F (0 : Int32) x_fresh o28_17 eo28_17 ?_
  obtain rfl := Option.some.inj h
  exact w_vret (pc := 59) G dM_shrink_59 Fh
def rm_M_extend : Room := { frames := 2, cells := 0, slots := 0, locals := 52 }
theorem dM_extend_0 : decode cM_extend 0 = .ok (.iconst 0, 1) := by decide +kernel
theorem dM_extend_1 : decode cM_extend 1 = .ok (.istore_n 2, 1) := by decide +kernel
theorem dM_extend_2 : decode cM_extend 2 = .ok (.iload_n 2, 1) := by decide +kernel
theorem dM_extend_3 : decode cM_extend 3 = .ok (.iconst 4, 1) := by decide +kernel
theorem dM_extend_4 : decode cM_extend 4 = .ok (.if_icmp .ge 23, 3) := by decide +kernel
theorem dM_extend_7 : decode cM_extend 7 = .ok (.aload_n 0, 1) := by decide +kernel
theorem dM_extend_8 : decode cM_extend 8 = .ok (.getfield 20, 3) := by decide +kernel
theorem dM_extend_11 : decode cM_extend 11 = .ok (.iload_n 2, 1) := by decide +kernel
theorem dM_extend_12 : decode cM_extend 12 = .ok (.aload_n 0, 1) := by decide +kernel
theorem dM_extend_13 : decode cM_extend 13 = .ok (.getfield 29, 3) := by decide +kernel
theorem dM_extend_16 : decode cM_extend 16 = .ok (.iload_n 1, 1) := by decide +kernel
theorem dM_extend_17 : decode cM_extend 17 = .ok (.iload_n 2, 1) := by decide +kernel
theorem dM_extend_18 : decode cM_extend 18 = .ok (.iadd, 1) := by decide +kernel
theorem dM_extend_19 : decode cM_extend 19 = .ok (.laload, 1) := by decide +kernel
theorem dM_extend_20 : decode cM_extend 20 = .ok (.lastore, 1) := by decide +kernel
theorem dM_extend_21 : decode cM_extend 21 = .ok (.iinc 2 1, 3) := by decide +kernel
theorem dM_extend_24 : decode cM_extend 24 = .ok (.goto (-22), 3) := by decide +kernel
theorem dM_extend_27 : decode cM_extend 27 = .ok (.iconst 0, 1) := by decide +kernel
theorem dM_extend_28 : decode cM_extend 28 = .ok (.istore_n 2, 1) := by decide +kernel
theorem dM_extend_29 : decode cM_extend 29 = .ok (.iload_n 2, 1) := by decide +kernel
theorem dM_extend_30 : decode cM_extend 30 = .ok (.aload_n 0, 1) := by decide +kernel
theorem dM_extend_31 : decode cM_extend 31 = .ok (.getfield 149, 3) := by decide +kernel
theorem dM_extend_34 : decode cM_extend 34 = .ok (.if_icmp .ge 88, 3) := by decide +kernel
theorem dM_extend_37 : decode cM_extend 37 = .ok (.aload_n 0, 1) := by decide +kernel
theorem dM_extend_38 : decode cM_extend 38 = .ok (.iconst 4, 1) := by decide +kernel
theorem dM_extend_39 : decode cM_extend 39 = .ok (.iload_n 2, 1) := by decide +kernel
theorem dM_extend_40 : decode cM_extend 40 = .ok (.imul, 1) := by decide +kernel
theorem dM_extend_41 : decode cM_extend 41 = .ok (.invokevirtual 197, 3) := by decide +kernel
theorem dM_extend_44 : decode cM_extend 44 = .ok (.istore_n 3, 1) := by decide +kernel
theorem dM_extend_45 : decode cM_extend 45 = .ok (.aload_n 0, 1) := by decide +kernel
theorem dM_extend_46 : decode cM_extend 46 = .ok (.getfield 44, 3) := by decide +kernel
theorem dM_extend_49 : decode cM_extend 49 = .ok (.iconst 4, 1) := by decide +kernel
theorem dM_extend_50 : decode cM_extend 50 = .ok (.iload_n 2, 1) := by decide +kernel
theorem dM_extend_51 : decode cM_extend 51 = .ok (.imul, 1) := by decide +kernel
theorem dM_extend_52 : decode cM_extend 52 = .ok (.iload_n 3, 1) := by decide +kernel
theorem dM_extend_53 : decode cM_extend 53 = .ok (.iadd, 1) := by decide +kernel
theorem dM_extend_54 : decode cM_extend 54 = .ok (.laload, 1) := by decide +kernel
theorem dM_extend_55 : decode cM_extend 55 = .ok (.lstore 4, 2) := by decide +kernel
theorem dM_extend_57 : decode cM_extend 57 = .ok (.aload_n 0, 1) := by decide +kernel
theorem dM_extend_58 : decode cM_extend 58 = .ok (.getfield 20, 3) := by decide +kernel
theorem dM_extend_61 : decode cM_extend 61 = .ok (.iload_n 3, 1) := by decide +kernel
theorem dM_extend_62 : decode cM_extend 62 = .ok (.laload, 1) := by decide +kernel
theorem dM_extend_63 : decode cM_extend 63 = .ok (.lstore 6, 2) := by decide +kernel
theorem dM_extend_65 : decode cM_extend 65 = .ok (.iconst 0, 1) := by decide +kernel
theorem dM_extend_66 : decode cM_extend 66 = .ok (.istore 8, 2) := by decide +kernel
theorem dM_extend_68 : decode cM_extend 68 = .ok (.iload 8, 2) := by decide +kernel
theorem dM_extend_70 : decode cM_extend 70 = .ok (.iconst 4, 1) := by decide +kernel
theorem dM_extend_71 : decode cM_extend 71 = .ok (.if_icmp .ge 41, 3) := by decide +kernel
theorem dM_extend_74 : decode cM_extend 74 = .ok (.aload_n 0, 1) := by decide +kernel
theorem dM_extend_75 : decode cM_extend 75 = .ok (.getfield 20, 3) := by decide +kernel
theorem dM_extend_78 : decode cM_extend 78 = .ok (.iload 8, 2) := by decide +kernel
theorem dM_extend_80 : decode cM_extend 80 = .ok (.aload_n 0, 1) := by decide +kernel
theorem dM_extend_81 : decode cM_extend 81 = .ok (.getfield 20, 3) := by decide +kernel
theorem dM_extend_84 : decode cM_extend 84 = .ok (.iload 8, 2) := by decide +kernel
theorem dM_extend_86 : decode cM_extend 86 = .ok (.laload, 1) := by decide +kernel
theorem dM_extend_87 : decode cM_extend 87 = .ok (.lload 4, 2) := by decide +kernel
theorem dM_extend_89 : decode cM_extend 89 = .ok (.lmul, 1) := by decide +kernel
theorem dM_extend_90 : decode cM_extend 90 = .ok (.lload 6, 2) := by decide +kernel
theorem dM_extend_92 : decode cM_extend 92 = .ok (.aload_n 0, 1) := by decide +kernel
theorem dM_extend_93 : decode cM_extend 93 = .ok (.getfield 44, 3) := by decide +kernel
theorem dM_extend_96 : decode cM_extend 96 = .ok (.iconst 4, 1) := by decide +kernel
theorem dM_extend_97 : decode cM_extend 97 = .ok (.iload_n 2, 1) := by decide +kernel
theorem dM_extend_98 : decode cM_extend 98 = .ok (.imul, 1) := by decide +kernel
theorem dM_extend_99 : decode cM_extend 99 = .ok (.iload 8, 2) := by decide +kernel
theorem dM_extend_101 : decode cM_extend 101 = .ok (.iadd, 1) := by decide +kernel
theorem dM_extend_102 : decode cM_extend 102 = .ok (.laload, 1) := by decide +kernel
theorem dM_extend_103 : decode cM_extend 103 = .ok (.lmul, 1) := by decide +kernel
theorem dM_extend_104 : decode cM_extend 104 = .ok (.lsub, 1) := by decide +kernel
theorem dM_extend_105 : decode cM_extend 105 = .ok (.lastore, 1) := by decide +kernel
theorem dM_extend_106 : decode cM_extend 106 = .ok (.iinc 8 1, 3) := by decide +kernel
theorem dM_extend_109 : decode cM_extend 109 = .ok (.goto (-41), 3) := by decide +kernel
theorem dM_extend_112 : decode cM_extend 112 = .ok (.aload_n 0, 1) := by decide +kernel
theorem dM_extend_113 : decode cM_extend 113 = .ok (.invokevirtual 200, 3) := by decide +kernel
theorem dM_extend_116 : decode cM_extend 116 = .ok (.iinc 2 1, 3) := by decide +kernel
theorem dM_extend_119 : decode cM_extend 119 = .ok (.goto (-90), 3) := by decide +kernel
theorem dM_extend_122 : decode cM_extend 122 = .ok (.aload_n 0, 1) := by decide +kernel
theorem dM_extend_123 : decode cM_extend 123 = .ok (.getfield 20, 3) := by decide +kernel
theorem dM_extend_126 : decode cM_extend 126 = .ok (.iconst 0, 1) := by decide +kernel
theorem dM_extend_127 : decode cM_extend 127 = .ok (.laload, 1) := by decide +kernel
theorem dM_extend_128 : decode cM_extend 128 = .ok (.lconst 0, 1) := by decide +kernel
theorem dM_extend_129 : decode cM_extend 129 = .ok (.lcmp, 1) := by decide +kernel
theorem dM_extend_130 : decode cM_extend 130 = .ok (.ifCond .ne 36, 3) := by decide +kernel
theorem dM_extend_133 : decode cM_extend 133 = .ok (.aload_n 0, 1) := by decide +kernel
theorem dM_extend_134 : decode cM_extend 134 = .ok (.getfield 20, 3) := by decide +kernel
theorem dM_extend_137 : decode cM_extend 137 = .ok (.iconst 1, 1) := by decide +kernel
theorem dM_extend_138 : decode cM_extend 138 = .ok (.laload, 1) := by decide +kernel
theorem dM_extend_139 : decode cM_extend 139 = .ok (.lconst 0, 1) := by decide +kernel
theorem dM_extend_140 : decode cM_extend 140 = .ok (.lcmp, 1) := by decide +kernel
theorem dM_extend_141 : decode cM_extend 141 = .ok (.ifCond .ne 25, 3) := by decide +kernel
theorem dM_extend_144 : decode cM_extend 144 = .ok (.aload_n 0, 1) := by decide +kernel
theorem dM_extend_145 : decode cM_extend 145 = .ok (.getfield 20, 3) := by decide +kernel
theorem dM_extend_148 : decode cM_extend 148 = .ok (.iconst 2, 1) := by decide +kernel
theorem dM_extend_149 : decode cM_extend 149 = .ok (.laload, 1) := by decide +kernel
theorem dM_extend_150 : decode cM_extend 150 = .ok (.lconst 0, 1) := by decide +kernel
theorem dM_extend_151 : decode cM_extend 151 = .ok (.lcmp, 1) := by decide +kernel
theorem dM_extend_152 : decode cM_extend 152 = .ok (.ifCond .ne 14, 3) := by decide +kernel
theorem dM_extend_155 : decode cM_extend 155 = .ok (.aload_n 0, 1) := by decide +kernel
theorem dM_extend_156 : decode cM_extend 156 = .ok (.getfield 20, 3) := by decide +kernel
theorem dM_extend_159 : decode cM_extend 159 = .ok (.iconst 3, 1) := by decide +kernel
theorem dM_extend_160 : decode cM_extend 160 = .ok (.laload, 1) := by decide +kernel
theorem dM_extend_161 : decode cM_extend 161 = .ok (.lconst 0, 1) := by decide +kernel
theorem dM_extend_162 : decode cM_extend 162 = .ok (.lcmp, 1) := by decide +kernel
theorem dM_extend_163 : decode cM_extend 163 = .ok (.ifCond .eq 7, 3) := by decide +kernel
theorem dM_extend_166 : decode cM_extend 166 = .ok (.iconst 1, 1) := by decide +kernel
theorem dM_extend_167 : decode cM_extend 167 = .ok (.goto 4, 3) := by decide +kernel
theorem dM_extend_170 : decode cM_extend 170 = .ok (.iconst 0, 1) := by decide +kernel
theorem dM_extend_171 : decode cM_extend 171 = .ok (.istore_n 2, 1) := by decide +kernel
theorem dM_extend_172 : decode cM_extend 172 = .ok (.iload_n 2, 1) := by decide +kernel
theorem dM_extend_173 : decode cM_extend 173 = .ok (.ifCond .eq 45, 3) := by decide +kernel
theorem dM_extend_176 : decode cM_extend 176 = .ok (.iconst 0, 1) := by decide +kernel
theorem dM_extend_177 : decode cM_extend 177 = .ok (.istore_n 3, 1) := by decide +kernel
theorem dM_extend_178 : decode cM_extend 178 = .ok (.iload_n 3, 1) := by decide +kernel
theorem dM_extend_179 : decode cM_extend 179 = .ok (.iconst 4, 1) := by decide +kernel
theorem dM_extend_180 : decode cM_extend 180 = .ok (.if_icmp .ge 28, 3) := by decide +kernel
theorem dM_extend_183 : decode cM_extend 183 = .ok (.aload_n 0, 1) := by decide +kernel
theorem dM_extend_184 : decode cM_extend 184 = .ok (.getfield 44, 3) := by decide +kernel
theorem dM_extend_187 : decode cM_extend 187 = .ok (.iconst 4, 1) := by decide +kernel
theorem dM_extend_188 : decode cM_extend 188 = .ok (.aload_n 0, 1) := by decide +kernel
theorem dM_extend_189 : decode cM_extend 189 = .ok (.getfield 149, 3) := by decide +kernel
theorem dM_extend_192 : decode cM_extend 192 = .ok (.imul, 1) := by decide +kernel
theorem dM_extend_193 : decode cM_extend 193 = .ok (.iload_n 3, 1) := by decide +kernel
theorem dM_extend_194 : decode cM_extend 194 = .ok (.iadd, 1) := by decide +kernel
theorem dM_extend_195 : decode cM_extend 195 = .ok (.aload_n 0, 1) := by decide +kernel
theorem dM_extend_196 : decode cM_extend 196 = .ok (.getfield 20, 3) := by decide +kernel
theorem dM_extend_199 : decode cM_extend 199 = .ok (.iload_n 3, 1) := by decide +kernel
theorem dM_extend_200 : decode cM_extend 200 = .ok (.laload, 1) := by decide +kernel
theorem dM_extend_201 : decode cM_extend 201 = .ok (.lastore, 1) := by decide +kernel
theorem dM_extend_202 : decode cM_extend 202 = .ok (.iinc 3 1, 3) := by decide +kernel
theorem dM_extend_205 : decode cM_extend 205 = .ok (.goto (-27), 3) := by decide +kernel
theorem dM_extend_208 : decode cM_extend 208 = .ok (.aload_n 0, 1) := by decide +kernel
theorem dM_extend_209 : decode cM_extend 209 = .ok (.dup, 1) := by decide +kernel
theorem dM_extend_210 : decode cM_extend 210 = .ok (.getfield 149, 3) := by decide +kernel
theorem dM_extend_213 : decode cM_extend 213 = .ok (.iconst 1, 1) := by decide +kernel
theorem dM_extend_214 : decode cM_extend 214 = .ok (.iadd, 1) := by decide +kernel
theorem dM_extend_215 : decode cM_extend 215 = .ok (.putfield 149, 3) := by decide +kernel
theorem dM_extend_218 : decode cM_extend 218 = .ok (.return_, 1) := by decide +kernel
theorem cb_M_lead_M_extend : CB yM_lead cM_lead 3 (some .int) rm_M_lead rm_M_extend 1 := ⟨wd697, wd8, by decide +kernel, rfl, rfl, by decide⟩
theorem cb_M_shrink_M_extend : CB yM_shrink cM_shrink 4 none rm_M_shrink rm_M_extend 0 := ⟨wd701, wd8, by decide +kernel, rfl, rfl, by decide⟩
noncomputable def lM_extend_2 (F : Nat) (x_made : Nat → Int64) (v1 : Int32) : Nat → Int32 → (Nat → Int64) → Option ((Nat → Int64))
  | 0, _, _ => none
  | n + 1, v2, x_fresh => if (4 : Int32) ≤ v2 then some (x_fresh) else gd (vp_in (v1 + v2) 20) (gd (vp_in v2 4) (lM_extend_2 F x_made v1 n (v2 + 1) (vp_updL x_fresh v2.toNatClampNeg (x_made (v1 + v2).toNatClampNeg))))
set_option maxHeartbeats 8000000 in
set_option maxRecDepth 100000 in
theorem lM_extend_2_ok {g : Gm} {κ : ctx} (G : OK g κ RM cM_extend 9 none rm_M_extend) (X : Nat → va_E) (F : Nat) {x_many : Int32} {x_generator : Nat → Int32} {x_known : Int32} {x_without : Int32} {x_rows : Int32} {x_row : Nat → Int64} {x_pivot : Nat → Int32} {x_multiple : Nat → Int64} {x_last : Nat → Int64} {x_made : Nat → Int64} {x_settled : Nat → Int64} {x_point : Nat → Int64} {x_limit : Int64} {x_mode : Int32} {x_counted : Int32} {x_listed : Int32} {x_held : Int32} {x_first : Nat → Int64} {x_squares : Nat → Int64} {x_wanted : Int32} {x_spanned : Int32} {x_span : Nat → Int64} {x_minima : Nat → Int32} {x_measured : Int32} {x_found : Nat → Int64} {x_any : Int32} (v1 : Int32) : ∀ (n : Nat) (v2 : Int32) (x_fresh : Nat → Int64) (out : (Nat → Int64)), lM_extend_2 F x_made v1 n v2 x_fresh = some out → (J g κ 9 27 [(0, .ref (κ.1 0))] [] (LM κ (x_many, x_generator, x_known, x_without, x_rows, x_row, x_pivot, out, x_multiple, x_last, x_made, x_settled, x_point, x_limit, x_mode, x_counted, x_listed, x_held, x_first, x_squares, x_wanted, x_spanned, x_span, x_minima, x_measured, x_found, x_any) X)) → J g κ 9 2 [(0, .ref (κ.1 0)), (1, .int v1), (2, .int v2)] [] (LM κ (x_many, x_generator, x_known, x_without, x_rows, x_row, x_pivot, x_fresh, x_multiple, x_last, x_made, x_settled, x_point, x_limit, x_mode, x_counted, x_listed, x_held, x_first, x_squares, x_wanted, x_spanned, x_span, x_minima, x_measured, x_found, x_any) X) := by
  intro n
  induction n with
  | zero =>
    intro v2 x_fresh
    intro out h
    rw [lM_extend_2] at h
    cases h
  | succ n ih =>
    intro v2 x_fresh out h K
    rw [lM_extend_2] at h
    refine w_iload_n (pc := 2) (q := 2) G dM_extend_2 rfl rfl ?_
    refine w_iconst (pc := 3) (v := (4 : Int32)) G dM_extend_3 (by decide) ?_
    refine w_icmp_ge (pc := 4) (tgt := 27) G dM_extend_4 (by decide) (fun c4 => ?_) (fun c4 => ?_)
    · have h := if_t c4 h
      obtain rfl := Option.some.inj h
      refine w_sub (lv' := [(0, .ref (κ.1 0))]) [0] rfl ?_
      exact K
    · have h := if_f c4 h
      refine w_aload_n (pc := 7) (q := 0) G dM_extend_7 rfl rfl ?_
      refine w_get (pc := 8) (v := .ref (κ.1 4)) (fs := fl_M κ (x_many, x_generator, x_known, x_without, x_rows, x_row, x_pivot, x_fresh, x_multiple, x_last, x_made, x_settled, x_point, x_limit, x_mode, x_counted, x_listed, x_held, x_first, x_squares, x_wanted, x_spanned, x_span, x_minima, x_measured, x_found, x_any)) G 0 (by decide) lb_M rfl wsM_ok 7 (by decide) wd497 gf_M_7 dM_extend_8 ?_
      refine w_iload_n (pc := 11) (q := 2) G dM_extend_11 rfl rfl ?_
      refine w_aload_n (pc := 12) (q := 0) G dM_extend_12 rfl rfl ?_
      refine w_get (pc := 13) (v := .ref (κ.1 7)) (fs := fl_M κ (x_many, x_generator, x_known, x_without, x_rows, x_row, x_pivot, x_fresh, x_multiple, x_last, x_made, x_settled, x_point, x_limit, x_mode, x_counted, x_listed, x_held, x_first, x_squares, x_wanted, x_spanned, x_span, x_minima, x_measured, x_found, x_any)) G 0 (by decide) lb_M rfl wsM_ok 10 (by decide) wd500 gf_M_10 dM_extend_13 ?_
      refine w_iload_n (pc := 16) (q := 1) G dM_extend_16 rfl rfl ?_
      refine w_iload_n (pc := 17) (q := 2) G dM_extend_17 rfl rfl ?_
      refine w_iadd (pc := 18) G dM_extend_18 ?_
      obtain ⟨i19, h⟩ := gd_some h
      refine w_lald (pc := 19) (n := 20) (f := x_made) G 7 (by decide) lk_made i19 dM_extend_19 ?_
      obtain ⟨i20, h⟩ := gd_some h
      refine w_last (pc := 20) (n := 4) (f := x_fresh) (L1 := (LM κ (x_many, x_generator, x_known, x_without, x_rows, x_row, x_pivot, vp_updL x_fresh v2.toNatClampNeg (x_made (v1 + v2).toNatClampNeg), x_multiple, x_last, x_made, x_settled, x_point, x_limit, x_mode, x_counted, x_listed, x_held, x_first, x_squares, x_wanted, x_spanned, x_span, x_minima, x_measured, x_found, x_any) X)) G 4 (by decide) lk_fresh i20 dM_extend_20 up_fresh ?_
      refine w_iinc (pc := 21) (q0 := 2) (v := (v2 + 1)) (lv' := [(2, .int (v2 + 1)), (0, .ref (κ.1 0)), (1, .int v1)]) G dM_extend_21 rfl rfl (by decide) rfl ?_
      refine w_goto (pc := 24) (tgt := 2) G dM_extend_24 (by decide) ?_
      refine w_sub (lv' := [(0, .ref (κ.1 0)), (1, .int v1), (2, .int (v2 + 1))]) [1, 2, 0] rfl ?_
      exact ih (v2 + 1) (vp_updL x_fresh v2.toNatClampNeg (x_made (v1 + v2).toNatClampNeg)) out h K
noncomputable def lM_extend_68 (F : Nat) (x_span : Nat → Int64) (v2 : Int32) (v4 : Int64) (v6 : Int64) : Nat → Int32 → (Nat → Int64) → Option ((Nat → Int64))
  | 0, _, _ => none
  | n + 1, v8, x_fresh => if (4 : Int32) ≤ v8 then some (x_fresh) else gd (vp_in v8 4) (gd (vp_in (((4 : Int32) * v2) + v8) 16) (gd (vp_in v8 4) (lM_extend_68 F x_span v2 v4 v6 n (v8 + 1) (vp_updL x_fresh v8.toNatClampNeg (((x_fresh v8.toNatClampNeg) * v4) - (v6 * (x_span (((4 : Int32) * v2) + v8).toNatClampNeg)))))))
set_option maxHeartbeats 8000000 in
set_option maxRecDepth 100000 in
theorem lM_extend_68_ok {g : Gm} {κ : ctx} (G : OK g κ RM cM_extend 9 none rm_M_extend) (X : Nat → va_E) (F : Nat) {x_many : Int32} {x_generator : Nat → Int32} {x_known : Int32} {x_without : Int32} {x_rows : Int32} {x_row : Nat → Int64} {x_pivot : Nat → Int32} {x_multiple : Nat → Int64} {x_last : Nat → Int64} {x_made : Nat → Int64} {x_settled : Nat → Int64} {x_point : Nat → Int64} {x_limit : Int64} {x_mode : Int32} {x_counted : Int32} {x_listed : Int32} {x_held : Int32} {x_first : Nat → Int64} {x_squares : Nat → Int64} {x_wanted : Int32} {x_spanned : Int32} {x_span : Nat → Int64} {x_minima : Nat → Int32} {x_measured : Int32} {x_found : Nat → Int64} {x_any : Int32} (v2 : Int32) (v4 : Int64) (v6 : Int64) : ∀ (n : Nat) (v8 : Int32) (x_fresh : Nat → Int64) (out : (Nat → Int64)), lM_extend_68 F x_span v2 v4 v6 n v8 x_fresh = some out → (J g κ 9 112 [(0, .ref (κ.1 0)), (2, .int v2)] [] (LM κ (x_many, x_generator, x_known, x_without, x_rows, x_row, x_pivot, out, x_multiple, x_last, x_made, x_settled, x_point, x_limit, x_mode, x_counted, x_listed, x_held, x_first, x_squares, x_wanted, x_spanned, x_span, x_minima, x_measured, x_found, x_any) X)) → J g κ 9 68 [(0, .ref (κ.1 0)), (2, .int v2), (4, .long v4), (6, .long v6), (8, .int v8)] [] (LM κ (x_many, x_generator, x_known, x_without, x_rows, x_row, x_pivot, x_fresh, x_multiple, x_last, x_made, x_settled, x_point, x_limit, x_mode, x_counted, x_listed, x_held, x_first, x_squares, x_wanted, x_spanned, x_span, x_minima, x_measured, x_found, x_any) X) := by
  intro n
  induction n with
  | zero =>
    intro v8 x_fresh
    intro out h
    rw [lM_extend_68] at h
    cases h
  | succ n ih =>
    intro v8 x_fresh out h K
    rw [lM_extend_68] at h
    refine w_iload (pc := 68) (q := 4) G dM_extend_68 rfl ?_
    refine w_iconst (pc := 70) (v := (4 : Int32)) G dM_extend_70 (by decide) ?_
    refine w_icmp_ge (pc := 71) (tgt := 112) G dM_extend_71 (by decide) (fun c71 => ?_) (fun c71 => ?_)
    · have h := if_t c71 h
      obtain rfl := Option.some.inj h
      refine w_sub (lv' := [(0, .ref (κ.1 0)), (2, .int v2)]) [0, 1] rfl ?_
      exact K
    · have h := if_f c71 h
      refine w_aload_n (pc := 74) (q := 0) G dM_extend_74 rfl rfl ?_
      refine w_get (pc := 75) (v := .ref (κ.1 4)) (fs := fl_M κ (x_many, x_generator, x_known, x_without, x_rows, x_row, x_pivot, x_fresh, x_multiple, x_last, x_made, x_settled, x_point, x_limit, x_mode, x_counted, x_listed, x_held, x_first, x_squares, x_wanted, x_spanned, x_span, x_minima, x_measured, x_found, x_any)) G 0 (by decide) lb_M rfl wsM_ok 7 (by decide) wd497 gf_M_7 dM_extend_75 ?_
      refine w_iload (pc := 78) (q := 4) G dM_extend_78 rfl ?_
      refine w_aload_n (pc := 80) (q := 0) G dM_extend_80 rfl rfl ?_
      refine w_get (pc := 81) (v := .ref (κ.1 4)) (fs := fl_M κ (x_many, x_generator, x_known, x_without, x_rows, x_row, x_pivot, x_fresh, x_multiple, x_last, x_made, x_settled, x_point, x_limit, x_mode, x_counted, x_listed, x_held, x_first, x_squares, x_wanted, x_spanned, x_span, x_minima, x_measured, x_found, x_any)) G 0 (by decide) lb_M rfl wsM_ok 7 (by decide) wd497 gf_M_7 dM_extend_81 ?_
      refine w_iload (pc := 84) (q := 4) G dM_extend_84 rfl ?_
      obtain ⟨i86, h⟩ := gd_some h
      refine w_lald (pc := 86) (n := 4) (f := x_fresh) G 4 (by decide) lk_fresh i86 dM_extend_86 ?_
      refine w_lload (pc := 87) (q := 2) G dM_extend_87 rfl ?_
      refine w_lmul (pc := 89) G dM_extend_89 ?_
      refine w_lload (pc := 90) (q := 3) G dM_extend_90 rfl ?_
      refine w_aload_n (pc := 92) (q := 0) G dM_extend_92 rfl rfl ?_
      refine w_get (pc := 93) (v := .ref (κ.1 12)) (fs := fl_M κ (x_many, x_generator, x_known, x_without, x_rows, x_row, x_pivot, x_fresh, x_multiple, x_last, x_made, x_settled, x_point, x_limit, x_mode, x_counted, x_listed, x_held, x_first, x_squares, x_wanted, x_spanned, x_span, x_minima, x_measured, x_found, x_any)) G 0 (by decide) lb_M rfl wsM_ok 22 (by decide) wd512 gf_M_22 dM_extend_93 ?_
      refine w_iconst (pc := 96) (v := (4 : Int32)) G dM_extend_96 (by decide) ?_
      refine w_iload_n (pc := 97) (q := 1) G dM_extend_97 rfl rfl ?_
      refine w_imul (pc := 98) G dM_extend_98 ?_
      refine w_iload (pc := 99) (q := 4) G dM_extend_99 rfl ?_
      refine w_iadd (pc := 101) G dM_extend_101 ?_
      obtain ⟨i102, h⟩ := gd_some h
      refine w_lald (pc := 102) (n := 16) (f := x_span) G 12 (by decide) lk_span i102 dM_extend_102 ?_
      refine w_lmul (pc := 103) G dM_extend_103 ?_
      refine w_lsub (pc := 104) G dM_extend_104 ?_
      obtain ⟨i105, h⟩ := gd_some h
      refine w_last (pc := 105) (n := 4) (f := x_fresh) (L1 := (LM κ (x_many, x_generator, x_known, x_without, x_rows, x_row, x_pivot, vp_updL x_fresh v8.toNatClampNeg (((x_fresh v8.toNatClampNeg) * v4) - (v6 * (x_span (((4 : Int32) * v2) + v8).toNatClampNeg))), x_multiple, x_last, x_made, x_settled, x_point, x_limit, x_mode, x_counted, x_listed, x_held, x_first, x_squares, x_wanted, x_spanned, x_span, x_minima, x_measured, x_found, x_any) X)) G 4 (by decide) lk_fresh i105 dM_extend_105 up_fresh ?_
      refine w_iinc (pc := 106) (q0 := 4) (v := (v8 + 1)) (lv' := [(8, .int (v8 + 1)), (0, .ref (κ.1 0)), (2, .int v2), (4, .long v4), (6, .long v6)]) G dM_extend_106 rfl rfl (by decide) rfl ?_
      refine w_goto (pc := 109) (tgt := 68) G dM_extend_109 (by decide) ?_
      refine w_sub (lv' := [(0, .ref (κ.1 0)), (2, .int v2), (4, .long v4), (6, .long v6), (8, .int (v8 + 1))]) [1, 2, 3, 4, 0] rfl ?_
      exact ih (v8 + 1) (vp_updL x_fresh v8.toNatClampNeg (((x_fresh v8.toNatClampNeg) * v4) - (v6 * (x_span (((4 : Int32) * v2) + v8).toNatClampNeg)))) out h K
noncomputable def lM_extend_29 (F : Nat) (x_spanned : Int32) (x_span : Nat → Int64) : Nat → Int32 → (Nat → Int64) → Option ((Nat → Int64))
  | 0, _, _ => none
  | n + 1, v2, x_fresh => if x_spanned ≤ v2 then some (x_fresh) else (M_lead F x_span ((4 : Int32) * v2)).bind (fun r41 => gd (vp_in (((4 : Int32) * v2) + r41) 16) (gd (vp_in r41 4) ((lM_extend_68 F x_span v2 (x_span (((4 : Int32) * v2) + r41).toNatClampNeg) (x_fresh r41.toNatClampNeg) F (0 : Int32) x_fresh).bind (fun o68_22 => (M_shrink F o68_22 ).bind (fun r113 => lM_extend_29 F x_spanned x_span n (v2 + 1) r113)))))
set_option maxHeartbeats 8000000 in
set_option maxRecDepth 100000 in
theorem lM_extend_29_ok {g : Gm} {κ : ctx} (G : OK g κ RM cM_extend 9 none rm_M_extend) (X : Nat → va_E) (F : Nat) {x_many : Int32} {x_generator : Nat → Int32} {x_known : Int32} {x_without : Int32} {x_rows : Int32} {x_row : Nat → Int64} {x_pivot : Nat → Int32} {x_multiple : Nat → Int64} {x_last : Nat → Int64} {x_made : Nat → Int64} {x_settled : Nat → Int64} {x_point : Nat → Int64} {x_limit : Int64} {x_mode : Int32} {x_counted : Int32} {x_listed : Int32} {x_held : Int32} {x_first : Nat → Int64} {x_squares : Nat → Int64} {x_wanted : Int32} {x_spanned : Int32} {x_span : Nat → Int64} {x_minima : Nat → Int32} {x_measured : Int32} {x_found : Nat → Int64} {x_any : Int32} : ∀ (n : Nat) (v2 : Int32) (x_fresh : Nat → Int64) (out : (Nat → Int64)), lM_extend_29 F x_spanned x_span  n v2 x_fresh = some out → (J g κ 9 122 [(0, .ref (κ.1 0))] [] (LM κ (x_many, x_generator, x_known, x_without, x_rows, x_row, x_pivot, out, x_multiple, x_last, x_made, x_settled, x_point, x_limit, x_mode, x_counted, x_listed, x_held, x_first, x_squares, x_wanted, x_spanned, x_span, x_minima, x_measured, x_found, x_any) X)) → J g κ 9 29 [(0, .ref (κ.1 0)), (2, .int v2)] [] (LM κ (x_many, x_generator, x_known, x_without, x_rows, x_row, x_pivot, x_fresh, x_multiple, x_last, x_made, x_settled, x_point, x_limit, x_mode, x_counted, x_listed, x_held, x_first, x_squares, x_wanted, x_spanned, x_span, x_minima, x_measured, x_found, x_any) X) := by
  intro n
  induction n with
  | zero =>
    intro v2 x_fresh
    intro out h
    rw [lM_extend_29] at h
    cases h
  | succ n ih =>
    intro v2 x_fresh out h K
    rw [lM_extend_29] at h
    refine w_iload_n (pc := 29) (q := 1) G dM_extend_29 rfl rfl ?_
    refine w_aload_n (pc := 30) (q := 0) G dM_extend_30 rfl rfl ?_
    refine w_get (pc := 31) (v := .int x_spanned) (fs := fl_M κ (x_many, x_generator, x_known, x_without, x_rows, x_row, x_pivot, x_fresh, x_multiple, x_last, x_made, x_settled, x_point, x_limit, x_mode, x_counted, x_listed, x_held, x_first, x_squares, x_wanted, x_spanned, x_span, x_minima, x_measured, x_found, x_any)) G 0 (by decide) lb_M rfl wsM_ok 21 (by decide) wd511 gf_M_21 dM_extend_31 ?_
    refine w_icmp_ge (pc := 34) (tgt := 122) G dM_extend_34 (by decide) (fun c34 => ?_) (fun c34 => ?_)
    · have h := if_t c34 h
      obtain rfl := Option.some.inj h
      refine w_sub (lv' := [(0, .ref (κ.1 0))]) [0] rfl ?_
      exact K
    · have h := if_f c34 h
      refine w_aload_n (pc := 37) (q := 0) G dM_extend_37 rfl rfl ?_
      refine w_iconst (pc := 38) (v := (4 : Int32)) G dM_extend_38 (by decide) ?_
      refine w_iload_n (pc := 39) (q := 1) G dM_extend_39 rfl rfl ?_
      refine w_imul (pc := 40) G dM_extend_40 ?_
      obtain ⟨r41, e41, h⟩ := bd h
      refine w_callV (pc := 41) (av := [.int ((4 : Int32) * v2)]) (rest := []) (v := some (.int r41)) (L' := (LM κ (x_many, x_generator, x_known, x_without, x_rows, x_row, x_pivot, x_fresh, x_multiple, x_last, x_made, x_settled, x_point, x_limit, x_mode, x_counted, x_listed, x_held, x_first, x_squares, x_wanted, x_spanned, x_span, x_minima, x_measured, x_found, x_any) X)) (T := TM) (fs := fl_M κ (x_many, x_generator, x_known, x_without, x_rows, x_row, x_pivot, x_fresh, x_multiple, x_last, x_made, x_settled, x_point, x_limit, x_mode, x_counted, x_listed, x_held, x_first, x_squares, x_wanted, x_spanned, x_span, x_minima, x_measured, x_found, x_any)) G 0 0 27 (by decide) lb_M rfl cb_M_lead_M_extend wd696 ws38 wd694 (met_M_lead κ X F ((4 : Int32) * v2)  e41) rfl rfl rfl (Nat.le_of_ble_eq_true rfl) dM_extend_41 ?_
      refine w_istore_n (pc := 44) (lv' := [(3, .int r41), (0, .ref (κ.1 0)), (2, .int v2)]) G dM_extend_44 rfl (by decide) rfl ?_
      refine w_aload_n (pc := 45) (q := 1) G dM_extend_45 rfl rfl ?_
      refine w_get (pc := 46) (v := .ref (κ.1 12)) (fs := fl_M κ (x_many, x_generator, x_known, x_without, x_rows, x_row, x_pivot, x_fresh, x_multiple, x_last, x_made, x_settled, x_point, x_limit, x_mode, x_counted, x_listed, x_held, x_first, x_squares, x_wanted, x_spanned, x_span, x_minima, x_measured, x_found, x_any)) G 0 (by decide) lb_M rfl wsM_ok 22 (by decide) wd512 gf_M_22 dM_extend_46 ?_
      refine w_iconst (pc := 49) (v := (4 : Int32)) G dM_extend_49 (by decide) ?_
      refine w_iload_n (pc := 50) (q := 2) G dM_extend_50 rfl rfl ?_
      refine w_imul (pc := 51) G dM_extend_51 ?_
      refine w_iload_n (pc := 52) (q := 0) G dM_extend_52 rfl rfl ?_
      refine w_iadd (pc := 53) G dM_extend_53 ?_
      obtain ⟨i54, h⟩ := gd_some h
      refine w_lald (pc := 54) (n := 16) (f := x_span) G 12 (by decide) lk_span i54 dM_extend_54 ?_
      refine w_lstore (pc := 55) (lv' := [(4, .long (x_span (((4 : Int32) * v2) + r41).toNatClampNeg)), (3, .int r41), (0, .ref (κ.1 0)), (2, .int v2)]) G dM_extend_55 (by decide) rfl ?_
      refine w_aload_n (pc := 57) (q := 2) G dM_extend_57 rfl rfl ?_
      refine w_get (pc := 58) (v := .ref (κ.1 4)) (fs := fl_M κ (x_many, x_generator, x_known, x_without, x_rows, x_row, x_pivot, x_fresh, x_multiple, x_last, x_made, x_settled, x_point, x_limit, x_mode, x_counted, x_listed, x_held, x_first, x_squares, x_wanted, x_spanned, x_span, x_minima, x_measured, x_found, x_any)) G 0 (by decide) lb_M rfl wsM_ok 7 (by decide) wd497 gf_M_7 dM_extend_58 ?_
      refine w_iload_n (pc := 61) (q := 1) G dM_extend_61 rfl rfl ?_
      obtain ⟨i62, h⟩ := gd_some h
      refine w_lald (pc := 62) (n := 4) (f := x_fresh) G 4 (by decide) lk_fresh i62 dM_extend_62 ?_
      refine w_lstore (pc := 63) (lv' := [(6, .long (x_fresh r41.toNatClampNeg)), (4, .long (x_span (((4 : Int32) * v2) + r41).toNatClampNeg)), (3, .int r41), (0, .ref (κ.1 0)), (2, .int v2)]) G dM_extend_63 (by decide) rfl ?_
      refine w_iconst (pc := 65) (v := (0 : Int32)) G dM_extend_65 (by decide) ?_
      refine w_istore (pc := 66) (lv' := [(8, .int (0 : Int32)), (6, .long (x_fresh r41.toNatClampNeg)), (4, .long (x_span (((4 : Int32) * v2) + r41).toNatClampNeg)), (3, .int r41), (0, .ref (κ.1 0)), (2, .int v2)]) G dM_extend_66 (by decide) rfl ?_
      refine w_sub (lv' := [(0, .ref (κ.1 0)), (2, .int v2), (4, .long (x_span (((4 : Int32) * v2) + r41).toNatClampNeg)), (6, .long (x_fresh r41.toNatClampNeg)), (8, .int (0 : Int32))]) [4, 5, 2, 1, 0] rfl ?_
      obtain ⟨o68_22, eo68_22, h⟩ := bd h
      refine lM_extend_68_ok G X F v2 (x_span (((4 : Int32) * v2) + r41).toNatClampNeg) (x_fresh r41.toNatClampNeg) F (0 : Int32) x_fresh o68_22 eo68_22 ?_
      refine w_aload_n (pc := 112) (q := 0) G dM_extend_112 rfl rfl ?_
      obtain ⟨r113, e113, h⟩ := bd h
      refine w_callV (pc := 113) (av := []) (rest := []) (v := none) (L' := (LM κ (x_many, x_generator, x_known, x_without, x_rows, x_row, x_pivot, r113, x_multiple, x_last, x_made, x_settled, x_point, x_limit, x_mode, x_counted, x_listed, x_held, x_first, x_squares, x_wanted, x_spanned, x_span, x_minima, x_measured, x_found, x_any) X)) (T := TM) (fs := fl_M κ (x_many, x_generator, x_known, x_without, x_rows, x_row, x_pivot, o68_22, x_multiple, x_last, x_made, x_settled, x_point, x_limit, x_mode, x_counted, x_listed, x_held, x_first, x_squares, x_wanted, x_spanned, x_span, x_minima, x_measured, x_found, x_any)) G 0 0 27 (by decide) lb_M rfl cb_M_shrink_M_extend wd700 ws39 wd698 (met_M_shrink κ X F   e113) rfl rfl rfl (Nat.le_of_ble_eq_true rfl) dM_extend_113 ?_
      refine w_iinc (pc := 116) (q0 := 1) (v := (v2 + 1)) (lv' := [(2, .int (v2 + 1)), (0, .ref (κ.1 0))]) G dM_extend_116 rfl rfl (by decide) rfl ?_
      refine w_goto (pc := 119) (tgt := 29) G dM_extend_119 (by decide) ?_
      refine w_sub (lv' := [(0, .ref (κ.1 0)), (2, .int (v2 + 1))]) [1, 0] rfl ?_
      exact ih (v2 + 1) r113 out h K
noncomputable def lM_extend_178 (F : Nat) (x_fresh : Nat → Int64) (x_spanned : Int32) : Nat → Int32 → (Nat → Int64) → Option ((Nat → Int64))
  | 0, _, _ => none
  | n + 1, v3, x_span => if (4 : Int32) ≤ v3 then some (x_span) else gd (vp_in v3 4) (gd (vp_in (((4 : Int32) * x_spanned) + v3) 16) (lM_extend_178 F x_fresh x_spanned n (v3 + 1) (vp_updL x_span (((4 : Int32) * x_spanned) + v3).toNatClampNeg (x_fresh v3.toNatClampNeg))))
set_option maxHeartbeats 8000000 in
set_option maxRecDepth 100000 in
theorem lM_extend_178_ok {g : Gm} {κ : ctx} (G : OK g κ RM cM_extend 9 none rm_M_extend) (X : Nat → va_E) (F : Nat) {x_many : Int32} {x_generator : Nat → Int32} {x_known : Int32} {x_without : Int32} {x_rows : Int32} {x_row : Nat → Int64} {x_pivot : Nat → Int32} {x_fresh : Nat → Int64} {x_multiple : Nat → Int64} {x_last : Nat → Int64} {x_made : Nat → Int64} {x_settled : Nat → Int64} {x_point : Nat → Int64} {x_limit : Int64} {x_mode : Int32} {x_counted : Int32} {x_listed : Int32} {x_held : Int32} {x_first : Nat → Int64} {x_squares : Nat → Int64} {x_wanted : Int32} {x_spanned : Int32} {x_minima : Nat → Int32} {x_measured : Int32} {x_found : Nat → Int64} {x_any : Int32} : ∀ (n : Nat) (v3 : Int32) (x_span : Nat → Int64) (out : (Nat → Int64)), lM_extend_178 F x_fresh x_spanned  n v3 x_span = some out → (J g κ 9 208 [(0, .ref (κ.1 0))] [] (LM κ (x_many, x_generator, x_known, x_without, x_rows, x_row, x_pivot, x_fresh, x_multiple, x_last, x_made, x_settled, x_point, x_limit, x_mode, x_counted, x_listed, x_held, x_first, x_squares, x_wanted, x_spanned, out, x_minima, x_measured, x_found, x_any) X)) → J g κ 9 178 [(0, .ref (κ.1 0)), (3, .int v3)] [] (LM κ (x_many, x_generator, x_known, x_without, x_rows, x_row, x_pivot, x_fresh, x_multiple, x_last, x_made, x_settled, x_point, x_limit, x_mode, x_counted, x_listed, x_held, x_first, x_squares, x_wanted, x_spanned, x_span, x_minima, x_measured, x_found, x_any) X) := by
  intro n
  induction n with
  | zero =>
    intro v3 x_span
    intro out h
    rw [lM_extend_178] at h
    cases h
  | succ n ih =>
    intro v3 x_span out h K
    rw [lM_extend_178] at h
    refine w_iload_n (pc := 178) (q := 1) G dM_extend_178 rfl rfl ?_
    refine w_iconst (pc := 179) (v := (4 : Int32)) G dM_extend_179 (by decide) ?_
    refine w_icmp_ge (pc := 180) (tgt := 208) G dM_extend_180 (by decide) (fun c180 => ?_) (fun c180 => ?_)
    · have h := if_t c180 h
      obtain rfl := Option.some.inj h
      refine w_sub (lv' := [(0, .ref (κ.1 0))]) [0] rfl ?_
      exact K
    · have h := if_f c180 h
      refine w_aload_n (pc := 183) (q := 0) G dM_extend_183 rfl rfl ?_
      refine w_get (pc := 184) (v := .ref (κ.1 12)) (fs := fl_M κ (x_many, x_generator, x_known, x_without, x_rows, x_row, x_pivot, x_fresh, x_multiple, x_last, x_made, x_settled, x_point, x_limit, x_mode, x_counted, x_listed, x_held, x_first, x_squares, x_wanted, x_spanned, x_span, x_minima, x_measured, x_found, x_any)) G 0 (by decide) lb_M rfl wsM_ok 22 (by decide) wd512 gf_M_22 dM_extend_184 ?_
      refine w_iconst (pc := 187) (v := (4 : Int32)) G dM_extend_187 (by decide) ?_
      refine w_aload_n (pc := 188) (q := 0) G dM_extend_188 rfl rfl ?_
      refine w_get (pc := 189) (v := .int x_spanned) (fs := fl_M κ (x_many, x_generator, x_known, x_without, x_rows, x_row, x_pivot, x_fresh, x_multiple, x_last, x_made, x_settled, x_point, x_limit, x_mode, x_counted, x_listed, x_held, x_first, x_squares, x_wanted, x_spanned, x_span, x_minima, x_measured, x_found, x_any)) G 0 (by decide) lb_M rfl wsM_ok 21 (by decide) wd511 gf_M_21 dM_extend_189 ?_
      refine w_imul (pc := 192) G dM_extend_192 ?_
      refine w_iload_n (pc := 193) (q := 1) G dM_extend_193 rfl rfl ?_
      refine w_iadd (pc := 194) G dM_extend_194 ?_
      refine w_aload_n (pc := 195) (q := 0) G dM_extend_195 rfl rfl ?_
      refine w_get (pc := 196) (v := .ref (κ.1 4)) (fs := fl_M κ (x_many, x_generator, x_known, x_without, x_rows, x_row, x_pivot, x_fresh, x_multiple, x_last, x_made, x_settled, x_point, x_limit, x_mode, x_counted, x_listed, x_held, x_first, x_squares, x_wanted, x_spanned, x_span, x_minima, x_measured, x_found, x_any)) G 0 (by decide) lb_M rfl wsM_ok 7 (by decide) wd497 gf_M_7 dM_extend_196 ?_
      refine w_iload_n (pc := 199) (q := 1) G dM_extend_199 rfl rfl ?_
      obtain ⟨i200, h⟩ := gd_some h
      refine w_lald (pc := 200) (n := 4) (f := x_fresh) G 4 (by decide) lk_fresh i200 dM_extend_200 ?_
      obtain ⟨i201, h⟩ := gd_some h
      refine w_last (pc := 201) (n := 16) (f := x_span) (L1 := (LM κ (x_many, x_generator, x_known, x_without, x_rows, x_row, x_pivot, x_fresh, x_multiple, x_last, x_made, x_settled, x_point, x_limit, x_mode, x_counted, x_listed, x_held, x_first, x_squares, x_wanted, x_spanned, vp_updL x_span (((4 : Int32) * x_spanned) + v3).toNatClampNeg (x_fresh v3.toNatClampNeg), x_minima, x_measured, x_found, x_any) X)) G 12 (by decide) lk_span i201 dM_extend_201 up_span ?_
      refine w_iinc (pc := 202) (q0 := 1) (v := (v3 + 1)) (lv' := [(3, .int (v3 + 1)), (0, .ref (κ.1 0))]) G dM_extend_202 rfl rfl (by decide) rfl ?_
      refine w_goto (pc := 205) (tgt := 178) G dM_extend_205 (by decide) ?_
      refine w_sub (lv' := [(0, .ref (κ.1 0)), (3, .int (v3 + 1))]) [1, 0] rfl ?_
      exact ih (v3 + 1) (vp_updL x_span (((4 : Int32) * x_spanned) + v3).toNatClampNeg (x_fresh v3.toNatClampNeg)) out h K
noncomputable def M_extend (F : Nat) (x_fresh : Nat → Int64) (x_made : Nat → Int64) (x_spanned : Int32) (x_span : Nat → Int64) (v1 : Int32) : Option ((Nat → Int64) × Int32 × (Nat → Int64)) := (lM_extend_2 F x_made v1 F (0 : Int32) x_fresh).bind (fun o2_7 => (lM_extend_29 F x_spanned x_span F (0 : Int32) o2_7).bind (fun o29_22 => gd (vp_in (0 : Int32) 4) (if (o29_22 (0 : Int32).toNatClampNeg) = (0 : Int64) then gd (vp_in (1 : Int32) 4) (if (o29_22 (1 : Int32).toNatClampNeg) = (0 : Int64) then gd (vp_in (2 : Int32) 4) (if (o29_22 (2 : Int32).toNatClampNeg) = (0 : Int64) then gd (vp_in (3 : Int32) 4) (if (o29_22 (3 : Int32).toNatClampNeg) = (0 : Int64) then some (o29_22, x_spanned, x_span) else (lM_extend_178 F o29_22 x_spanned F (0 : Int32) x_span).bind (fun o178_35 => some (o29_22, (x_spanned + (1 : Int32)), o178_35))) else (lM_extend_178 F o29_22 x_spanned F (0 : Int32) x_span).bind (fun o178_37 => some (o29_22, (x_spanned + (1 : Int32)), o178_37))) else (lM_extend_178 F o29_22 x_spanned F (0 : Int32) x_span).bind (fun o178_39 => some (o29_22, (x_spanned + (1 : Int32)), o178_39))) else (lM_extend_178 F o29_22 x_spanned F (0 : Int32) x_span).bind (fun o178_41 => some (o29_22, (x_spanned + (1 : Int32)), o178_41)))))
set_option maxHeartbeats 8000000 in
set_option maxRecDepth 100000 in
theorem met_M_extend (κ : ctx) (X : Nat → va_E) (F : Nat) {x_many : Int32} {x_generator : Nat → Int32} {x_known : Int32} {x_without : Int32} {x_rows : Int32} {x_row : Nat → Int64} {x_pivot : Nat → Int32} {x_fresh : Nat → Int64} {x_multiple : Nat → Int64} {x_last : Nat → Int64} {x_made : Nat → Int64} {x_settled : Nat → Int64} {x_point : Nat → Int64} {x_limit : Int64} {x_mode : Int32} {x_counted : Int32} {x_listed : Int32} {x_held : Int32} {x_first : Nat → Int64} {x_squares : Nat → Int64} {x_wanted : Int32} {x_spanned : Int32} {x_span : Nat → Int64} {x_minima : Nat → Int32} {x_measured : Int32} {x_found : Nat → Int64} {x_any : Int32} (v1 : Int32) {out : (Nat → Int64) × Int32 × (Nat → Int64)} (h : M_extend F x_fresh x_made x_spanned x_span v1 = some out) : Mt yM_extend cM_extend 9 none rm_M_extend κ [.ref (κ.1 0), .int v1] (LM κ (x_many, x_generator, x_known, x_without, x_rows, x_row, x_pivot, x_fresh, x_multiple, x_last, x_made, x_settled, x_point, x_limit, x_mode, x_counted, x_listed, x_held, x_first, x_squares, x_wanted, x_spanned, x_span, x_minima, x_measured, x_found, x_any) X) none (LM κ (x_many, x_generator, x_known, x_without, x_rows, x_row, x_pivot, out.1, x_multiple, x_last, x_made, x_settled, x_point, x_limit, x_mode, x_counted, x_listed, x_held, x_first, x_squares, x_wanted, out.2.1, out.2.2, x_minima, x_measured, x_found, x_any) X) := by
  refine Mt.of (by decide) (Nat.le_of_ble_eq_true rfl) ?_
  intro g G Fh
  unfold M_extend at h
  show J g κ 9 0 [(0, .ref (κ.1 0)), (1, .int v1)] [] (LM κ (x_many, x_generator, x_known, x_without, x_rows, x_row, x_pivot, x_fresh, x_multiple, x_last, x_made, x_settled, x_point, x_limit, x_mode, x_counted, x_listed, x_held, x_first, x_squares, x_wanted, x_spanned, x_span, x_minima, x_measured, x_found, x_any) X)
  refine w_iconst (pc := 0) (v := (0 : Int32)) G dM_extend_0 (by decide) ?_
  refine w_istore_n (pc := 1) (lv' := [(2, .int (0 : Int32)), (0, .ref (κ.1 0)), (1, .int v1)]) G dM_extend_1 rfl (by decide) rfl ?_
  refine w_sub (lv' := [(0, .ref (κ.1 0)), (1, .int v1), (2, .int (0 : Int32))]) [1, 2, 0] rfl ?_
  obtain ⟨o2_7, eo2_7, h⟩ := bd h
  refine lM_extend_2_ok G X F v1 F (0 : Int32) x_fresh o2_7 eo2_7 ?_
  refine w_iconst (pc := 27) (v := (0 : Int32)) G dM_extend_27 (by decide) ?_
  refine w_istore_n (pc := 28) (lv' := [(2, .int (0 : Int32)), (0, .ref (κ.1 0))]) G dM_extend_28 rfl (by decide) rfl ?_
  refine w_sub (lv' := [(0, .ref (κ.1 0)), (2, .int (0 : Int32))]) [1, 0] rfl ?_
  obtain ⟨o29_22, eo29_22, h⟩ := bd h
  refine lM_extend_29_ok G X F F (0 : Int32) o2_7 o29_22 eo29_22 ?_
  refine w_aload_n (pc := 122) (q := 0) G dM_extend_122 rfl rfl ?_
  refine w_get (pc := 123) (v := .ref (κ.1 4)) (fs := fl_M κ (x_many, x_generator, x_known, x_without, x_rows, x_row, x_pivot, o29_22, x_multiple, x_last, x_made, x_settled, x_point, x_limit, x_mode, x_counted, x_listed, x_held, x_first, x_squares, x_wanted, x_spanned, x_span, x_minima, x_measured, x_found, x_any)) G 0 (by decide) lb_M rfl wsM_ok 7 (by decide) wd497 gf_M_7 dM_extend_123 ?_
  refine w_iconst (pc := 126) (v := (0 : Int32)) G dM_extend_126 (by decide) ?_
  obtain ⟨i127, h⟩ := gd_some h
  refine w_lald (pc := 127) (n := 4) (f := o29_22) G 4 (by decide) lk_fresh i127 dM_extend_127 ?_
  refine w_lconst (pc := 128) (v := (0 : Int64)) G dM_extend_128 (by decide) ?_
  refine w_lc_ne (pc := 129) (tgt := 166) G dM_extend_129 dM_extend_130 (by decide) (fun c129 => ?_) (fun c129 => ?_)
  · have h := if_t c129 h
    refine w_aload_n (pc := 133) (q := 0) G dM_extend_133 rfl rfl ?_
    refine w_get (pc := 134) (v := .ref (κ.1 4)) (fs := fl_M κ (x_many, x_generator, x_known, x_without, x_rows, x_row, x_pivot, o29_22, x_multiple, x_last, x_made, x_settled, x_point, x_limit, x_mode, x_counted, x_listed, x_held, x_first, x_squares, x_wanted, x_spanned, x_span, x_minima, x_measured, x_found, x_any)) G 0 (by decide) lb_M rfl wsM_ok 7 (by decide) wd497 gf_M_7 dM_extend_134 ?_
    refine w_iconst (pc := 137) (v := (1 : Int32)) G dM_extend_137 (by decide) ?_
    obtain ⟨i138, h⟩ := gd_some h
    refine w_lald (pc := 138) (n := 4) (f := o29_22) G 4 (by decide) lk_fresh i138 dM_extend_138 ?_
    refine w_lconst (pc := 139) (v := (0 : Int64)) G dM_extend_139 (by decide) ?_
    refine w_lc_ne (pc := 140) (tgt := 166) G dM_extend_140 dM_extend_141 (by decide) (fun c140 => ?_) (fun c140 => ?_)
    · have h := if_t c140 h
      refine w_aload_n (pc := 144) (q := 0) G dM_extend_144 rfl rfl ?_
      refine w_get (pc := 145) (v := .ref (κ.1 4)) (fs := fl_M κ (x_many, x_generator, x_known, x_without, x_rows, x_row, x_pivot, o29_22, x_multiple, x_last, x_made, x_settled, x_point, x_limit, x_mode, x_counted, x_listed, x_held, x_first, x_squares, x_wanted, x_spanned, x_span, x_minima, x_measured, x_found, x_any)) G 0 (by decide) lb_M rfl wsM_ok 7 (by decide) wd497 gf_M_7 dM_extend_145 ?_
      refine w_iconst (pc := 148) (v := (2 : Int32)) G dM_extend_148 (by decide) ?_
      obtain ⟨i149, h⟩ := gd_some h
      refine w_lald (pc := 149) (n := 4) (f := o29_22) G 4 (by decide) lk_fresh i149 dM_extend_149 ?_
      refine w_lconst (pc := 150) (v := (0 : Int64)) G dM_extend_150 (by decide) ?_
      refine w_lc_ne (pc := 151) (tgt := 166) G dM_extend_151 dM_extend_152 (by decide) (fun c151 => ?_) (fun c151 => ?_)
      · have h := if_t c151 h
        refine w_aload_n (pc := 155) (q := 0) G dM_extend_155 rfl rfl ?_
        refine w_get (pc := 156) (v := .ref (κ.1 4)) (fs := fl_M κ (x_many, x_generator, x_known, x_without, x_rows, x_row, x_pivot, o29_22, x_multiple, x_last, x_made, x_settled, x_point, x_limit, x_mode, x_counted, x_listed, x_held, x_first, x_squares, x_wanted, x_spanned, x_span, x_minima, x_measured, x_found, x_any)) G 0 (by decide) lb_M rfl wsM_ok 7 (by decide) wd497 gf_M_7 dM_extend_156 ?_
        refine w_iconst (pc := 159) (v := (3 : Int32)) G dM_extend_159 (by decide) ?_
        obtain ⟨i160, h⟩ := gd_some h
        refine w_lald (pc := 160) (n := 4) (f := o29_22) G 4 (by decide) lk_fresh i160 dM_extend_160 ?_
        refine w_lconst (pc := 161) (v := (0 : Int64)) G dM_extend_161 (by decide) ?_
        refine w_lc_eq (pc := 162) (tgt := 170) G dM_extend_162 dM_extend_163 (by decide) (fun c162 => ?_) (fun c162 => ?_)
        · have h := if_t c162 h
          refine w_iconst (pc := 170) (v := (0 : Int32)) G dM_extend_170 (by decide) ?_
          refine w_istore_n (pc := 171) (lv' := [(2, .int (0 : Int32)), (0, .ref (κ.1 0))]) G dM_extend_171 rfl (by decide) rfl ?_
          refine w_iload_n (pc := 172) (q := 0) G dM_extend_172 rfl rfl ?_
          refine w_if_eq (pc := 173) (tgt := 218) G dM_extend_173 (by decide) (fun _ => ?_) (fun c => absurd (by decide) c)
          obtain rfl := Option.some.inj h
          exact w_vret (pc := 218) G dM_extend_218 Fh
        · have h := if_f c162 h
          refine w_iconst (pc := 166) (v := (1 : Int32)) G dM_extend_166 (by decide) ?_
          refine w_goto (pc := 167) (tgt := 171) G dM_extend_167 (by decide) ?_
          refine w_istore_n (pc := 171) (lv' := [(2, .int (1 : Int32)), (0, .ref (κ.1 0))]) G dM_extend_171 rfl (by decide) rfl ?_
          refine w_iload_n (pc := 172) (q := 0) G dM_extend_172 rfl rfl ?_
          refine w_if_eq (pc := 173) (tgt := 218) G dM_extend_173 (by decide) (fun c => absurd c (by decide)) (fun _ => ?_)
          refine w_iconst (pc := 176) (v := (0 : Int32)) G dM_extend_176 (by decide) ?_
          refine w_istore_n (pc := 177) (lv' := [(3, .int (0 : Int32)), (2, .int (1 : Int32)), (0, .ref (κ.1 0))]) G dM_extend_177 rfl (by decide) rfl ?_
          refine w_sub (lv' := [(0, .ref (κ.1 0)), (3, .int (0 : Int32))]) [2, 0] rfl ?_
          obtain ⟨o178_35, eo178_35, h⟩ := bd h
          refine lM_extend_178_ok G X F F (0 : Int32) x_span o178_35 eo178_35 ?_
          refine w_aload_n (pc := 208) (q := 0) G dM_extend_208 rfl rfl ?_
          refine w_dup (pc := 209) G dM_extend_209 rfl ?_
          refine w_get (pc := 210) (v := .int x_spanned) (fs := fl_M κ (x_many, x_generator, x_known, x_without, x_rows, x_row, x_pivot, o29_22, x_multiple, x_last, x_made, x_settled, x_point, x_limit, x_mode, x_counted, x_listed, x_held, x_first, x_squares, x_wanted, x_spanned, o178_35, x_minima, x_measured, x_found, x_any)) G 0 (by decide) lb_M rfl wsM_ok 21 (by decide) wd511 gf_M_21 dM_extend_210 ?_
          refine w_iconst (pc := 213) (v := (1 : Int32)) G dM_extend_213 (by decide) ?_
          refine w_iadd (pc := 214) G dM_extend_214 ?_
          refine w_put (pc := 215) (fs := fl_M κ (x_many, x_generator, x_known, x_without, x_rows, x_row, x_pivot, o29_22, x_multiple, x_last, x_made, x_settled, x_point, x_limit, x_mode, x_counted, x_listed, x_held, x_first, x_squares, x_wanted, x_spanned, o178_35, x_minima, x_measured, x_found, x_any)) (L1 := (LM κ (x_many, x_generator, x_known, x_without, x_rows, x_row, x_pivot, o29_22, x_multiple, x_last, x_made, x_settled, x_point, x_limit, x_mode, x_counted, x_listed, x_held, x_first, x_squares, x_wanted, (x_spanned + (1 : Int32)), o178_35, x_minima, x_measured, x_found, x_any) X)) G 0 (by decide) lb_M rfl wsM_ok tyM tyM_ok nmM 21 (by decide) wd511 rfl rfl rfl (Nat.le_of_ble_eq_true rfl) dM_extend_215 upf_spanned ?_
          obtain rfl := Option.some.inj h
          exact w_vret (pc := 218) G dM_extend_218 Fh
      · have h := if_f c151 h
        refine w_iconst (pc := 166) (v := (1 : Int32)) G dM_extend_166 (by decide) ?_
        refine w_goto (pc := 167) (tgt := 171) G dM_extend_167 (by decide) ?_
        refine w_istore_n (pc := 171) (lv' := [(2, .int (1 : Int32)), (0, .ref (κ.1 0))]) G dM_extend_171 rfl (by decide) rfl ?_
        refine w_iload_n (pc := 172) (q := 0) G dM_extend_172 rfl rfl ?_
        refine w_if_eq (pc := 173) (tgt := 218) G dM_extend_173 (by decide) (fun c => absurd c (by decide)) (fun _ => ?_)
        refine w_iconst (pc := 176) (v := (0 : Int32)) G dM_extend_176 (by decide) ?_
        refine w_istore_n (pc := 177) (lv' := [(3, .int (0 : Int32)), (2, .int (1 : Int32)), (0, .ref (κ.1 0))]) G dM_extend_177 rfl (by decide) rfl ?_
        refine w_sub (lv' := [(0, .ref (κ.1 0)), (3, .int (0 : Int32))]) [2, 0] rfl ?_
        obtain ⟨o178_37, eo178_37, h⟩ := bd h
        refine lM_extend_178_ok G X F F (0 : Int32) x_span o178_37 eo178_37 ?_
        refine w_aload_n (pc := 208) (q := 0) G dM_extend_208 rfl rfl ?_
        refine w_dup (pc := 209) G dM_extend_209 rfl ?_
        refine w_get (pc := 210) (v := .int x_spanned) (fs := fl_M κ (x_many, x_generator, x_known, x_without, x_rows, x_row, x_pivot, o29_22, x_multiple, x_last, x_made, x_settled, x_point, x_limit, x_mode, x_counted, x_listed, x_held, x_first, x_squares, x_wanted, x_spanned, o178_37, x_minima, x_measured, x_found, x_any)) G 0 (by decide) lb_M rfl wsM_ok 21 (by decide) wd511 gf_M_21 dM_extend_210 ?_
        refine w_iconst (pc := 213) (v := (1 : Int32)) G dM_extend_213 (by decide) ?_
        refine w_iadd (pc := 214) G dM_extend_214 ?_
        refine w_put (pc := 215) (fs := fl_M κ (x_many, x_generator, x_known, x_without, x_rows, x_row, x_pivot, o29_22, x_multiple, x_last, x_made, x_settled, x_point, x_limit, x_mode, x_counted, x_listed, x_held, x_first, x_squares, x_wanted, x_spanned, o178_37, x_minima, x_measured, x_found, x_any)) (L1 := (LM κ (x_many, x_generator, x_known, x_without, x_rows, x_row, x_pivot, o29_22, x_multiple, x_last, x_made, x_settled, x_point, x_limit, x_mode, x_counted, x_listed, x_held, x_first, x_squares, x_wanted, (x_spanned + (1 : Int32)), o178_37, x_minima, x_measured, x_found, x_any) X)) G 0 (by decide) lb_M rfl wsM_ok tyM tyM_ok nmM 21 (by decide) wd511 rfl rfl rfl (Nat.le_of_ble_eq_true rfl) dM_extend_215 upf_spanned ?_
        obtain rfl := Option.some.inj h
        exact w_vret (pc := 218) G dM_extend_218 Fh
    · have h := if_f c140 h
      refine w_iconst (pc := 166) (v := (1 : Int32)) G dM_extend_166 (by decide) ?_
      refine w_goto (pc := 167) (tgt := 171) G dM_extend_167 (by decide) ?_
      refine w_istore_n (pc := 171) (lv' := [(2, .int (1 : Int32)), (0, .ref (κ.1 0))]) G dM_extend_171 rfl (by decide) rfl ?_
      refine w_iload_n (pc := 172) (q := 0) G dM_extend_172 rfl rfl ?_
      refine w_if_eq (pc := 173) (tgt := 218) G dM_extend_173 (by decide) (fun c => absurd c (by decide)) (fun _ => ?_)
      refine w_iconst (pc := 176) (v := (0 : Int32)) G dM_extend_176 (by decide) ?_
      refine w_istore_n (pc := 177) (lv' := [(3, .int (0 : Int32)), (2, .int (1 : Int32)), (0, .ref (κ.1 0))]) G dM_extend_177 rfl (by decide) rfl ?_
      refine w_sub (lv' := [(0, .ref (κ.1 0)), (3, .int (0 : Int32))]) [2, 0] rfl ?_
      obtain ⟨o178_39, eo178_39, h⟩ := bd h
      refine lM_extend_178_ok G X F F (0 : Int32) x_span o178_39 eo178_39 ?_
      refine w_aload_n (pc := 208) (q := 0) G dM_extend_208 rfl rfl ?_
      refine w_dup (pc := 209) G dM_extend_209 rfl ?_
      refine w_get (pc := 210) (v := .int x_spanned) (fs := fl_M κ (x_many, x_generator, x_known, x_without, x_rows, x_row, x_pivot, o29_22, x_multiple, x_last, x_made, x_settled, x_point, x_limit, x_mode, x_counted, x_listed, x_held, x_first, x_squares, x_wanted, x_spanned, o178_39, x_minima, x_measured, x_found, x_any)) G 0 (by decide) lb_M rfl wsM_ok 21 (by decide) wd511 gf_M_21 dM_extend_210 ?_
      refine w_iconst (pc := 213) (v := (1 : Int32)) G dM_extend_213 (by decide) ?_
      refine w_iadd (pc := 214) G dM_extend_214 ?_
      refine w_put (pc := 215) (fs := fl_M κ (x_many, x_generator, x_known, x_without, x_rows, x_row, x_pivot, o29_22, x_multiple, x_last, x_made, x_settled, x_point, x_limit, x_mode, x_counted, x_listed, x_held, x_first, x_squares, x_wanted, x_spanned, o178_39, x_minima, x_measured, x_found, x_any)) (L1 := (LM κ (x_many, x_generator, x_known, x_without, x_rows, x_row, x_pivot, o29_22, x_multiple, x_last, x_made, x_settled, x_point, x_limit, x_mode, x_counted, x_listed, x_held, x_first, x_squares, x_wanted, (x_spanned + (1 : Int32)), o178_39, x_minima, x_measured, x_found, x_any) X)) G 0 (by decide) lb_M rfl wsM_ok tyM tyM_ok nmM 21 (by decide) wd511 rfl rfl rfl (Nat.le_of_ble_eq_true rfl) dM_extend_215 upf_spanned ?_
      obtain rfl := Option.some.inj h
      exact w_vret (pc := 218) G dM_extend_218 Fh
  · have h := if_f c129 h
    refine w_iconst (pc := 166) (v := (1 : Int32)) G dM_extend_166 (by decide) ?_
    refine w_goto (pc := 167) (tgt := 171) G dM_extend_167 (by decide) ?_
    refine w_istore_n (pc := 171) (lv' := [(2, .int (1 : Int32)), (0, .ref (κ.1 0))]) G dM_extend_171 rfl (by decide) rfl ?_
    refine w_iload_n (pc := 172) (q := 0) G dM_extend_172 rfl rfl ?_
    refine w_if_eq (pc := 173) (tgt := 218) G dM_extend_173 (by decide) (fun c => absurd c (by decide)) (fun _ => ?_)
    refine w_iconst (pc := 176) (v := (0 : Int32)) G dM_extend_176 (by decide) ?_
    refine w_istore_n (pc := 177) (lv' := [(3, .int (0 : Int32)), (2, .int (1 : Int32)), (0, .ref (κ.1 0))]) G dM_extend_177 rfl (by decide) rfl ?_
    refine w_sub (lv' := [(0, .ref (κ.1 0)), (3, .int (0 : Int32))]) [2, 0] rfl ?_
    obtain ⟨o178_41, eo178_41, h⟩ := bd h
    refine lM_extend_178_ok G X F F (0 : Int32) x_span o178_41 eo178_41 ?_
    refine w_aload_n (pc := 208) (q := 0) G dM_extend_208 rfl rfl ?_
    refine w_dup (pc := 209) G dM_extend_209 rfl ?_
    refine w_get (pc := 210) (v := .int x_spanned) (fs := fl_M κ (x_many, x_generator, x_known, x_without, x_rows, x_row, x_pivot, o29_22, x_multiple, x_last, x_made, x_settled, x_point, x_limit, x_mode, x_counted, x_listed, x_held, x_first, x_squares, x_wanted, x_spanned, o178_41, x_minima, x_measured, x_found, x_any)) G 0 (by decide) lb_M rfl wsM_ok 21 (by decide) wd511 gf_M_21 dM_extend_210 ?_
    refine w_iconst (pc := 213) (v := (1 : Int32)) G dM_extend_213 (by decide) ?_
    refine w_iadd (pc := 214) G dM_extend_214 ?_
    refine w_put (pc := 215) (fs := fl_M κ (x_many, x_generator, x_known, x_without, x_rows, x_row, x_pivot, o29_22, x_multiple, x_last, x_made, x_settled, x_point, x_limit, x_mode, x_counted, x_listed, x_held, x_first, x_squares, x_wanted, x_spanned, o178_41, x_minima, x_measured, x_found, x_any)) (L1 := (LM κ (x_many, x_generator, x_known, x_without, x_rows, x_row, x_pivot, o29_22, x_multiple, x_last, x_made, x_settled, x_point, x_limit, x_mode, x_counted, x_listed, x_held, x_first, x_squares, x_wanted, (x_spanned + (1 : Int32)), o178_41, x_minima, x_measured, x_found, x_any) X)) G 0 (by decide) lb_M rfl wsM_ok tyM tyM_ok nmM 21 (by decide) wd511 rfl rfl rfl (Nat.le_of_ble_eq_true rfl) dM_extend_215 upf_spanned ?_
    obtain rfl := Option.some.inj h
    exact w_vret (pc := 218) G dM_extend_218 Fh
def rm_M_compare : Room := { frames := 0, cells := 0, slots := 0, locals := 0 }
theorem dM_compare_0 : decode cM_compare 0 = .ok (.aload_n 0, 1) := by decide +kernel
theorem dM_compare_1 : decode cM_compare 1 = .ok (.getfield 210, 3) := by decide +kernel
theorem dM_compare_4 : decode cM_compare 4 = .ok (.ifCond .eq 12, 3) := by decide +kernel
theorem dM_compare_7 : decode cM_compare 7 = .ok (.lload_n 2, 1) := by decide +kernel
theorem dM_compare_8 : decode cM_compare 8 = .ok (.aload_n 0, 1) := by decide +kernel
theorem dM_compare_9 : decode cM_compare 9 = .ok (.getfield 132, 3) := by decide +kernel
theorem dM_compare_12 : decode cM_compare 12 = .ok (.lcmp, 1) := by decide +kernel
theorem dM_compare_13 : decode cM_compare 13 = .ok (.ifCond .ge 7, 3) := by decide +kernel
theorem dM_compare_16 : decode cM_compare 16 = .ok (.iconst 1, 1) := by decide +kernel
theorem dM_compare_17 : decode cM_compare 17 = .ok (.goto 4, 3) := by decide +kernel
theorem dM_compare_20 : decode cM_compare 20 = .ok (.iconst 0, 1) := by decide +kernel
theorem dM_compare_21 : decode cM_compare 21 = .ok (.istore 4, 2) := by decide +kernel
theorem dM_compare_23 : decode cM_compare 23 = .ok (.aload_n 0, 1) := by decide +kernel
theorem dM_compare_24 : decode cM_compare 24 = .ok (.getfield 210, 3) := by decide +kernel
theorem dM_compare_27 : decode cM_compare 27 = .ok (.ifCond .eq 74, 3) := by decide +kernel
theorem dM_compare_30 : decode cM_compare 30 = .ok (.lload_n 2, 1) := by decide +kernel
theorem dM_compare_31 : decode cM_compare 31 = .ok (.aload_n 0, 1) := by decide +kernel
theorem dM_compare_32 : decode cM_compare 32 = .ok (.getfield 132, 3) := by decide +kernel
theorem dM_compare_35 : decode cM_compare 35 = .ok (.lcmp, 1) := by decide +kernel
theorem dM_compare_36 : decode cM_compare 36 = .ok (.ifCond .ne 65, 3) := by decide +kernel
theorem dM_compare_39 : decode cM_compare 39 = .ok (.iconst 0, 1) := by decide +kernel
theorem dM_compare_40 : decode cM_compare 40 = .ok (.istore 5, 2) := by decide +kernel
theorem dM_compare_42 : decode cM_compare 42 = .ok (.iload 5, 2) := by decide +kernel
theorem dM_compare_44 : decode cM_compare 44 = .ok (.iconst 3, 1) := by decide +kernel
theorem dM_compare_45 : decode cM_compare 45 = .ok (.if_icmp .ge 29, 3) := by decide +kernel
theorem dM_compare_48 : decode cM_compare 48 = .ok (.aload_n 0, 1) := by decide +kernel
theorem dM_compare_49 : decode cM_compare 49 = .ok (.getfield 29, 3) := by decide +kernel
theorem dM_compare_52 : decode cM_compare 52 = .ok (.iload_n 1, 1) := by decide +kernel
theorem dM_compare_53 : decode cM_compare 53 = .ok (.iload 5, 2) := by decide +kernel
theorem dM_compare_55 : decode cM_compare 55 = .ok (.iadd, 1) := by decide +kernel
theorem dM_compare_56 : decode cM_compare 56 = .ok (.laload, 1) := by decide +kernel
theorem dM_compare_57 : decode cM_compare 57 = .ok (.aload_n 0, 1) := by decide +kernel
theorem dM_compare_58 : decode cM_compare 58 = .ok (.getfield 50, 3) := by decide +kernel
theorem dM_compare_61 : decode cM_compare 61 = .ok (.iload 5, 2) := by decide +kernel
theorem dM_compare_63 : decode cM_compare 63 = .ok (.laload, 1) := by decide +kernel
theorem dM_compare_64 : decode cM_compare 64 = .ok (.lcmp, 1) := by decide +kernel
theorem dM_compare_65 : decode cM_compare 65 = .ok (.ifCond .ne 9, 3) := by decide +kernel
theorem dM_compare_68 : decode cM_compare 68 = .ok (.iinc 5 1, 3) := by decide +kernel
theorem dM_compare_71 : decode cM_compare 71 = .ok (.goto (-29), 3) := by decide +kernel
theorem dM_compare_74 : decode cM_compare 74 = .ok (.aload_n 0, 1) := by decide +kernel
theorem dM_compare_75 : decode cM_compare 75 = .ok (.getfield 29, 3) := by decide +kernel
theorem dM_compare_78 : decode cM_compare 78 = .ok (.iload_n 1, 1) := by decide +kernel
theorem dM_compare_79 : decode cM_compare 79 = .ok (.iload 5, 2) := by decide +kernel
theorem dM_compare_81 : decode cM_compare 81 = .ok (.iadd, 1) := by decide +kernel
theorem dM_compare_82 : decode cM_compare 82 = .ok (.laload, 1) := by decide +kernel
theorem dM_compare_83 : decode cM_compare 83 = .ok (.aload_n 0, 1) := by decide +kernel
theorem dM_compare_84 : decode cM_compare 84 = .ok (.getfield 50, 3) := by decide +kernel
theorem dM_compare_87 : decode cM_compare 87 = .ok (.iload 5, 2) := by decide +kernel
theorem dM_compare_89 : decode cM_compare 89 = .ok (.laload, 1) := by decide +kernel
theorem dM_compare_90 : decode cM_compare 90 = .ok (.lcmp, 1) := by decide +kernel
theorem dM_compare_91 : decode cM_compare 91 = .ok (.ifCond .ge 7, 3) := by decide +kernel
theorem dM_compare_94 : decode cM_compare 94 = .ok (.iconst 1, 1) := by decide +kernel
theorem dM_compare_95 : decode cM_compare 95 = .ok (.goto 4, 3) := by decide +kernel
theorem dM_compare_98 : decode cM_compare 98 = .ok (.iconst 0, 1) := by decide +kernel
theorem dM_compare_99 : decode cM_compare 99 = .ok (.istore 4, 2) := by decide +kernel
theorem dM_compare_101 : decode cM_compare 101 = .ok (.iload 4, 2) := by decide +kernel
theorem dM_compare_103 : decode cM_compare 103 = .ok (.ifCond .eq 44, 3) := by decide +kernel
theorem dM_compare_106 : decode cM_compare 106 = .ok (.aload_n 0, 1) := by decide +kernel
theorem dM_compare_107 : decode cM_compare 107 = .ok (.iconst 1, 1) := by decide +kernel
theorem dM_compare_108 : decode cM_compare 108 = .ok (.putfield 210, 3) := by decide +kernel
theorem dM_compare_111 : decode cM_compare 111 = .ok (.aload_n 0, 1) := by decide +kernel
theorem dM_compare_112 : decode cM_compare 112 = .ok (.lload_n 2, 1) := by decide +kernel
theorem dM_compare_113 : decode cM_compare 113 = .ok (.putfield 132, 3) := by decide +kernel
theorem dM_compare_116 : decode cM_compare 116 = .ok (.iconst 0, 1) := by decide +kernel
theorem dM_compare_117 : decode cM_compare 117 = .ok (.istore 5, 2) := by decide +kernel
theorem dM_compare_119 : decode cM_compare 119 = .ok (.iload 5, 2) := by decide +kernel
theorem dM_compare_121 : decode cM_compare 121 = .ok (.iconst 4, 1) := by decide +kernel
theorem dM_compare_122 : decode cM_compare 122 = .ok (.if_icmp .ge 25, 3) := by decide +kernel
theorem dM_compare_125 : decode cM_compare 125 = .ok (.aload_n 0, 1) := by decide +kernel
theorem dM_compare_126 : decode cM_compare 126 = .ok (.getfield 50, 3) := by decide +kernel
theorem dM_compare_129 : decode cM_compare 129 = .ok (.iload 5, 2) := by decide +kernel
theorem dM_compare_131 : decode cM_compare 131 = .ok (.aload_n 0, 1) := by decide +kernel
theorem dM_compare_132 : decode cM_compare 132 = .ok (.getfield 29, 3) := by decide +kernel
theorem dM_compare_135 : decode cM_compare 135 = .ok (.iload_n 1, 1) := by decide +kernel
theorem dM_compare_136 : decode cM_compare 136 = .ok (.iload 5, 2) := by decide +kernel
theorem dM_compare_138 : decode cM_compare 138 = .ok (.iadd, 1) := by decide +kernel
theorem dM_compare_139 : decode cM_compare 139 = .ok (.laload, 1) := by decide +kernel
theorem dM_compare_140 : decode cM_compare 140 = .ok (.lastore, 1) := by decide +kernel
theorem dM_compare_141 : decode cM_compare 141 = .ok (.iinc 5 1, 3) := by decide +kernel
theorem dM_compare_144 : decode cM_compare 144 = .ok (.goto (-25), 3) := by decide +kernel
theorem dM_compare_147 : decode cM_compare 147 = .ok (.return_, 1) := by decide +kernel
noncomputable def lM_compare_119 (F : Nat) (x_made : Nat → Int64) (v1 : Int32) : Nat → Int32 → (Nat → Int64) → Option ((Nat → Int64))
  | 0, _, _ => none
  | n + 1, v5, x_found => if (4 : Int32) ≤ v5 then some (x_found) else gd (vp_in (v1 + v5) 20) (gd (vp_in v5 4) (lM_compare_119 F x_made v1 n (v5 + 1) (vp_updL x_found v5.toNatClampNeg (x_made (v1 + v5).toNatClampNeg))))
set_option maxHeartbeats 8000000 in
set_option maxRecDepth 100000 in
theorem lM_compare_119_ok {g : Gm} {κ : ctx} (G : OK g κ RM cM_compare 6 none rm_M_compare) (X : Nat → va_E) (F : Nat) {x_many : Int32} {x_generator : Nat → Int32} {x_known : Int32} {x_without : Int32} {x_rows : Int32} {x_row : Nat → Int64} {x_pivot : Nat → Int32} {x_fresh : Nat → Int64} {x_multiple : Nat → Int64} {x_last : Nat → Int64} {x_made : Nat → Int64} {x_settled : Nat → Int64} {x_point : Nat → Int64} {x_limit : Int64} {x_mode : Int32} {x_counted : Int32} {x_listed : Int32} {x_held : Int32} {x_first : Nat → Int64} {x_squares : Nat → Int64} {x_wanted : Int32} {x_spanned : Int32} {x_span : Nat → Int64} {x_minima : Nat → Int32} {x_measured : Int32} {x_any : Int32} (v1 : Int32) : ∀ (n : Nat) (v5 : Int32) (x_found : Nat → Int64) (out : (Nat → Int64)), lM_compare_119 F x_made v1 n v5 x_found = some out → (J g κ 6 147 [] [] (LM κ (x_many, x_generator, x_known, x_without, x_rows, x_row, x_pivot, x_fresh, x_multiple, x_last, x_made, x_settled, x_point, x_limit, x_mode, x_counted, x_listed, x_held, x_first, x_squares, x_wanted, x_spanned, x_span, x_minima, x_measured, out, x_any) X)) → J g κ 6 119 [(0, .ref (κ.1 0)), (1, .int v1), (5, .int v5)] [] (LM κ (x_many, x_generator, x_known, x_without, x_rows, x_row, x_pivot, x_fresh, x_multiple, x_last, x_made, x_settled, x_point, x_limit, x_mode, x_counted, x_listed, x_held, x_first, x_squares, x_wanted, x_spanned, x_span, x_minima, x_measured, x_found, x_any) X) := by
  intro n
  induction n with
  | zero =>
    intro v5 x_found
    intro out h
    rw [lM_compare_119] at h
    cases h
  | succ n ih =>
    intro v5 x_found out h K
    rw [lM_compare_119] at h
    refine w_iload (pc := 119) (q := 2) G dM_compare_119 rfl ?_
    refine w_iconst (pc := 121) (v := (4 : Int32)) G dM_compare_121 (by decide) ?_
    refine w_icmp_ge (pc := 122) (tgt := 147) G dM_compare_122 (by decide) (fun c122 => ?_) (fun c122 => ?_)
    · have h := if_t c122 h
      obtain rfl := Option.some.inj h
      refine w_sub (lv' := []) [] rfl ?_
      exact K
    · have h := if_f c122 h
      refine w_aload_n (pc := 125) (q := 0) G dM_compare_125 rfl rfl ?_
      refine w_get (pc := 126) (v := .ref (κ.1 14)) (fs := fl_M κ (x_many, x_generator, x_known, x_without, x_rows, x_row, x_pivot, x_fresh, x_multiple, x_last, x_made, x_settled, x_point, x_limit, x_mode, x_counted, x_listed, x_held, x_first, x_squares, x_wanted, x_spanned, x_span, x_minima, x_measured, x_found, x_any)) G 0 (by decide) lb_M rfl wsM_ok 25 (by decide) wd515 gf_M_25 dM_compare_126 ?_
      refine w_iload (pc := 129) (q := 2) G dM_compare_129 rfl ?_
      refine w_aload_n (pc := 131) (q := 0) G dM_compare_131 rfl rfl ?_
      refine w_get (pc := 132) (v := .ref (κ.1 7)) (fs := fl_M κ (x_many, x_generator, x_known, x_without, x_rows, x_row, x_pivot, x_fresh, x_multiple, x_last, x_made, x_settled, x_point, x_limit, x_mode, x_counted, x_listed, x_held, x_first, x_squares, x_wanted, x_spanned, x_span, x_minima, x_measured, x_found, x_any)) G 0 (by decide) lb_M rfl wsM_ok 10 (by decide) wd500 gf_M_10 dM_compare_132 ?_
      refine w_iload_n (pc := 135) (q := 1) G dM_compare_135 rfl rfl ?_
      refine w_iload (pc := 136) (q := 2) G dM_compare_136 rfl ?_
      refine w_iadd (pc := 138) G dM_compare_138 ?_
      obtain ⟨i139, h⟩ := gd_some h
      refine w_lald (pc := 139) (n := 20) (f := x_made) G 7 (by decide) lk_made i139 dM_compare_139 ?_
      obtain ⟨i140, h⟩ := gd_some h
      refine w_last (pc := 140) (n := 4) (f := x_found) (L1 := (LM κ (x_many, x_generator, x_known, x_without, x_rows, x_row, x_pivot, x_fresh, x_multiple, x_last, x_made, x_settled, x_point, x_limit, x_mode, x_counted, x_listed, x_held, x_first, x_squares, x_wanted, x_spanned, x_span, x_minima, x_measured, vp_updL x_found v5.toNatClampNeg (x_made (v1 + v5).toNatClampNeg), x_any) X)) G 14 (by decide) lk_found i140 dM_compare_140 up_found ?_
      refine w_iinc (pc := 141) (q0 := 2) (v := (v5 + 1)) (lv' := [(5, .int (v5 + 1)), (0, .ref (κ.1 0)), (1, .int v1)]) G dM_compare_141 rfl rfl (by decide) rfl ?_
      refine w_goto (pc := 144) (tgt := 119) G dM_compare_144 (by decide) ?_
      refine w_sub (lv' := [(0, .ref (κ.1 0)), (1, .int v1), (5, .int (v5 + 1))]) [1, 2, 0] rfl ?_
      exact ih (v5 + 1) (vp_updL x_found v5.toNatClampNeg (x_made (v1 + v5).toNatClampNeg)) out h K
noncomputable def lM_compare_42 (F : Nat) (x_made : Nat → Int64) (x_found : Nat → Int64) (v1 : Int32) (v2 : Int64) : Nat → Int32 → Option (Int32)
  | 0, _ => none
  | n + 1, v5 => if (3 : Int32) ≤ v5 then some (v5) else gd (vp_in (v1 + v5) 20) (gd (vp_in v5 4) (if (x_made (v1 + v5).toNatClampNeg) = (x_found v5.toNatClampNeg) then lM_compare_42 F x_made x_found v1 v2 n (v5 + 1) else some (v5)))
set_option maxHeartbeats 8000000 in
set_option maxRecDepth 100000 in
theorem lM_compare_42_ok {g : Gm} {κ : ctx} (G : OK g κ RM cM_compare 6 none rm_M_compare) (X : Nat → va_E) (F : Nat) {x_many : Int32} {x_generator : Nat → Int32} {x_known : Int32} {x_without : Int32} {x_rows : Int32} {x_row : Nat → Int64} {x_pivot : Nat → Int32} {x_fresh : Nat → Int64} {x_multiple : Nat → Int64} {x_last : Nat → Int64} {x_made : Nat → Int64} {x_settled : Nat → Int64} {x_point : Nat → Int64} {x_limit : Int64} {x_mode : Int32} {x_counted : Int32} {x_listed : Int32} {x_held : Int32} {x_first : Nat → Int64} {x_squares : Nat → Int64} {x_wanted : Int32} {x_spanned : Int32} {x_span : Nat → Int64} {x_minima : Nat → Int32} {x_measured : Int32} {x_found : Nat → Int64} {x_any : Int32} (v1 : Int32) (v2 : Int64) : ∀ (n : Nat) (v5 : Int32) (out : Int32), lM_compare_42 F x_made x_found v1 v2 n v5 = some out → (J g κ 6 74 [(0, .ref (κ.1 0)), (1, .int v1), (2, .long v2), (5, .int out)] [] (LM κ (x_many, x_generator, x_known, x_without, x_rows, x_row, x_pivot, x_fresh, x_multiple, x_last, x_made, x_settled, x_point, x_limit, x_mode, x_counted, x_listed, x_held, x_first, x_squares, x_wanted, x_spanned, x_span, x_minima, x_measured, x_found, x_any) X)) → J g κ 6 42 [(0, .ref (κ.1 0)), (1, .int v1), (2, .long v2), (5, .int v5)] [] (LM κ (x_many, x_generator, x_known, x_without, x_rows, x_row, x_pivot, x_fresh, x_multiple, x_last, x_made, x_settled, x_point, x_limit, x_mode, x_counted, x_listed, x_held, x_first, x_squares, x_wanted, x_spanned, x_span, x_minima, x_measured, x_found, x_any) X) := by
  intro n
  induction n with
  | zero =>
    intro v5
    intro out h
    rw [lM_compare_42] at h
    cases h
  | succ n ih =>
    intro v5 out h K
    rw [lM_compare_42] at h
    refine w_iload (pc := 42) (q := 3) G dM_compare_42 rfl ?_
    refine w_iconst (pc := 44) (v := (3 : Int32)) G dM_compare_44 (by decide) ?_
    refine w_icmp_ge (pc := 45) (tgt := 74) G dM_compare_45 (by decide) (fun c45 => ?_) (fun c45 => ?_)
    · have h := if_t c45 h
      obtain rfl := Option.some.inj h
      refine w_sub (lv' := [(0, .ref (κ.1 0)), (1, .int v1), (2, .long v2), (5, .int v5)]) [0, 1, 2, 3] rfl ?_
      exact K
    · have h := if_f c45 h
      refine w_aload_n (pc := 48) (q := 0) G dM_compare_48 rfl rfl ?_
      refine w_get (pc := 49) (v := .ref (κ.1 7)) (fs := fl_M κ (x_many, x_generator, x_known, x_without, x_rows, x_row, x_pivot, x_fresh, x_multiple, x_last, x_made, x_settled, x_point, x_limit, x_mode, x_counted, x_listed, x_held, x_first, x_squares, x_wanted, x_spanned, x_span, x_minima, x_measured, x_found, x_any)) G 0 (by decide) lb_M rfl wsM_ok 10 (by decide) wd500 gf_M_10 dM_compare_49 ?_
      refine w_iload_n (pc := 52) (q := 1) G dM_compare_52 rfl rfl ?_
      refine w_iload (pc := 53) (q := 3) G dM_compare_53 rfl ?_
      refine w_iadd (pc := 55) G dM_compare_55 ?_
      obtain ⟨i56, h⟩ := gd_some h
      refine w_lald (pc := 56) (n := 20) (f := x_made) G 7 (by decide) lk_made i56 dM_compare_56 ?_
      refine w_aload_n (pc := 57) (q := 0) G dM_compare_57 rfl rfl ?_
      refine w_get (pc := 58) (v := .ref (κ.1 14)) (fs := fl_M κ (x_many, x_generator, x_known, x_without, x_rows, x_row, x_pivot, x_fresh, x_multiple, x_last, x_made, x_settled, x_point, x_limit, x_mode, x_counted, x_listed, x_held, x_first, x_squares, x_wanted, x_spanned, x_span, x_minima, x_measured, x_found, x_any)) G 0 (by decide) lb_M rfl wsM_ok 25 (by decide) wd515 gf_M_25 dM_compare_58 ?_
      refine w_iload (pc := 61) (q := 3) G dM_compare_61 rfl ?_
      obtain ⟨i63, h⟩ := gd_some h
      refine w_lald (pc := 63) (n := 4) (f := x_found) G 14 (by decide) lk_found i63 dM_compare_63 ?_
      refine w_lc_ne (pc := 64) (tgt := 74) G dM_compare_64 dM_compare_65 (by decide) (fun c64 => ?_) (fun c64 => ?_)
      · have h := if_t c64 h
        refine w_iinc (pc := 68) (q0 := 3) (v := (v5 + 1)) (lv' := [(5, .int (v5 + 1)), (0, .ref (κ.1 0)), (1, .int v1), (2, .long v2)]) G dM_compare_68 rfl rfl (by decide) rfl ?_
        refine w_goto (pc := 71) (tgt := 42) G dM_compare_71 (by decide) ?_
        refine w_sub (lv' := [(0, .ref (κ.1 0)), (1, .int v1), (2, .long v2), (5, .int (v5 + 1))]) [1, 2, 3, 0] rfl ?_
        exact ih (v5 + 1) out h K
      · have h := if_f c64 h
        obtain rfl := Option.some.inj h
        refine w_sub (lv' := [(0, .ref (κ.1 0)), (1, .int v1), (2, .long v2), (5, .int v5)]) [0, 1, 2, 3] rfl ?_
        exact K
noncomputable def M_compare (F : Nat) (x_made : Nat → Int64) (x_limit : Int64) (x_found : Nat → Int64) (x_any : Int32) (v1 : Int32) (v2 : Int64) : Option (Int64 × (Nat → Int64) × Int32) := if x_any = 0 then if x_any = 0 then (lM_compare_119 F x_made v1 F (0 : Int32) x_found).bind (fun o119_10 => some (v2, o119_10, (1 : Int32))) else if v2 = x_limit then (lM_compare_42 F x_made x_found v1 v2 F (0 : Int32)).bind (fun o42_22 => gd (vp_in (v1 + o42_22) 20) (gd (vp_in o42_22 4) (if (x_found o42_22.toNatClampNeg) ≤ (x_made (v1 + o42_22).toNatClampNeg) then some (x_limit, x_found, x_any) else (lM_compare_119 F x_made v1 F (0 : Int32) x_found).bind (fun o119_26 => some (v2, o119_26, (1 : Int32)))))) else (lM_compare_119 F x_made v1 F (0 : Int32) x_found).bind (fun o119_28 => some (v2, o119_28, (1 : Int32))) else if x_limit ≤ v2 then if x_any = 0 then some (x_limit, x_found, x_any) else if v2 = x_limit then (lM_compare_42 F x_made x_found v1 v2 F (0 : Int32)).bind (fun o42_34 => gd (vp_in (v1 + o42_34) 20) (gd (vp_in o42_34 4) (if (x_found o42_34.toNatClampNeg) ≤ (x_made (v1 + o42_34).toNatClampNeg) then some (x_limit, x_found, x_any) else (lM_compare_119 F x_made v1 F (0 : Int32) x_found).bind (fun o119_38 => some (v2, o119_38, (1 : Int32)))))) else some (x_limit, x_found, x_any) else if x_any = 0 then (lM_compare_119 F x_made v1 F (0 : Int32) x_found).bind (fun o119_43 => some (v2, o119_43, (1 : Int32))) else if v2 = x_limit then (lM_compare_42 F x_made x_found v1 v2 F (0 : Int32)).bind (fun o42_45 => gd (vp_in (v1 + o42_45) 20) (gd (vp_in o42_45 4) (if (x_found o42_45.toNatClampNeg) ≤ (x_made (v1 + o42_45).toNatClampNeg) then some (x_limit, x_found, x_any) else (lM_compare_119 F x_made v1 F (0 : Int32) x_found).bind (fun o119_49 => some (v2, o119_49, (1 : Int32)))))) else (lM_compare_119 F x_made v1 F (0 : Int32) x_found).bind (fun o119_51 => some (v2, o119_51, (1 : Int32)))
set_option maxHeartbeats 8000000 in
set_option maxRecDepth 100000 in
theorem met_M_compare (κ : ctx) (X : Nat → va_E) (F : Nat) {x_many : Int32} {x_generator : Nat → Int32} {x_known : Int32} {x_without : Int32} {x_rows : Int32} {x_row : Nat → Int64} {x_pivot : Nat → Int32} {x_fresh : Nat → Int64} {x_multiple : Nat → Int64} {x_last : Nat → Int64} {x_made : Nat → Int64} {x_settled : Nat → Int64} {x_point : Nat → Int64} {x_limit : Int64} {x_mode : Int32} {x_counted : Int32} {x_listed : Int32} {x_held : Int32} {x_first : Nat → Int64} {x_squares : Nat → Int64} {x_wanted : Int32} {x_spanned : Int32} {x_span : Nat → Int64} {x_minima : Nat → Int32} {x_measured : Int32} {x_found : Nat → Int64} {x_any : Int32} (v1 : Int32) (v2 : Int64) {out : Int64 × (Nat → Int64) × Int32} (h : M_compare F x_made x_limit x_found x_any v1 v2 = some out) : Mt yM_compare cM_compare 6 none rm_M_compare κ [.ref (κ.1 0), .int v1, .long v2] (LM κ (x_many, x_generator, x_known, x_without, x_rows, x_row, x_pivot, x_fresh, x_multiple, x_last, x_made, x_settled, x_point, x_limit, x_mode, x_counted, x_listed, x_held, x_first, x_squares, x_wanted, x_spanned, x_span, x_minima, x_measured, x_found, x_any) X) none (LM κ (x_many, x_generator, x_known, x_without, x_rows, x_row, x_pivot, x_fresh, x_multiple, x_last, x_made, x_settled, x_point, out.1, x_mode, x_counted, x_listed, x_held, x_first, x_squares, x_wanted, x_spanned, x_span, x_minima, x_measured, out.2.1, out.2.2) X) := by
  refine Mt.of (by decide) (Nat.le_of_ble_eq_true rfl) ?_
  intro g G Fh
  unfold M_compare at h
  show J g κ 6 0 [(0, .ref (κ.1 0)), (1, .int v1), (2, .long v2)] [] (LM κ (x_many, x_generator, x_known, x_without, x_rows, x_row, x_pivot, x_fresh, x_multiple, x_last, x_made, x_settled, x_point, x_limit, x_mode, x_counted, x_listed, x_held, x_first, x_squares, x_wanted, x_spanned, x_span, x_minima, x_measured, x_found, x_any) X)
  refine w_aload_n (pc := 0) (q := 0) G dM_compare_0 rfl rfl ?_
  refine w_get (pc := 1) (v := .int x_any) (fs := fl_M κ (x_many, x_generator, x_known, x_without, x_rows, x_row, x_pivot, x_fresh, x_multiple, x_last, x_made, x_settled, x_point, x_limit, x_mode, x_counted, x_listed, x_held, x_first, x_squares, x_wanted, x_spanned, x_span, x_minima, x_measured, x_found, x_any)) G 0 (by decide) lb_M rfl wsM_ok 26 (by decide) wd516 gf_M_26 dM_compare_1 ?_
  refine w_if_eq (pc := 4) (tgt := 16) G dM_compare_4 (by decide) (fun c4 => ?_) (fun c4 => ?_)
  · have h := if_t c4 h
    refine w_iconst (pc := 16) (v := (1 : Int32)) G dM_compare_16 (by decide) ?_
    refine w_goto (pc := 17) (tgt := 21) G dM_compare_17 (by decide) ?_
    refine w_istore (pc := 21) (lv' := [(4, .int (1 : Int32)), (0, .ref (κ.1 0)), (1, .int v1), (2, .long v2)]) G dM_compare_21 (by decide) rfl ?_
    refine w_aload_n (pc := 23) (q := 1) G dM_compare_23 rfl rfl ?_
    refine w_get (pc := 24) (v := .int x_any) (fs := fl_M κ (x_many, x_generator, x_known, x_without, x_rows, x_row, x_pivot, x_fresh, x_multiple, x_last, x_made, x_settled, x_point, x_limit, x_mode, x_counted, x_listed, x_held, x_first, x_squares, x_wanted, x_spanned, x_span, x_minima, x_measured, x_found, x_any)) G 0 (by decide) lb_M rfl wsM_ok 26 (by decide) wd516 gf_M_26 dM_compare_24 ?_
    refine w_if_eq (pc := 27) (tgt := 101) G dM_compare_27 (by decide) (fun c27 => ?_) (fun c27 => ?_)
    · have h := if_t c27 h
      refine w_iload (pc := 101) (q := 0) G dM_compare_101 rfl ?_
      refine w_if_eq (pc := 103) (tgt := 147) G dM_compare_103 (by decide) (fun c => absurd c (by decide)) (fun _ => ?_)
      refine w_aload_n (pc := 106) (q := 1) G dM_compare_106 rfl rfl ?_
      refine w_iconst (pc := 107) (v := (1 : Int32)) G dM_compare_107 (by decide) ?_
      refine w_put (pc := 108) (fs := fl_M κ (x_many, x_generator, x_known, x_without, x_rows, x_row, x_pivot, x_fresh, x_multiple, x_last, x_made, x_settled, x_point, x_limit, x_mode, x_counted, x_listed, x_held, x_first, x_squares, x_wanted, x_spanned, x_span, x_minima, x_measured, x_found, x_any)) (L1 := (LM κ (x_many, x_generator, x_known, x_without, x_rows, x_row, x_pivot, x_fresh, x_multiple, x_last, x_made, x_settled, x_point, x_limit, x_mode, x_counted, x_listed, x_held, x_first, x_squares, x_wanted, x_spanned, x_span, x_minima, x_measured, x_found, (1 : Int32)) X)) G 0 (by decide) lb_M rfl wsM_ok tyM tyM_ok nmM 26 (by decide) wd516 rfl rfl rfl (Nat.le_of_ble_eq_true rfl) dM_compare_108 upf_any ?_
      refine w_aload_n (pc := 111) (q := 1) G dM_compare_111 rfl rfl ?_
      refine w_lload_n (pc := 112) (q := 3) G dM_compare_112 rfl rfl ?_
      refine w_put (pc := 113) (fs := fl_M κ (x_many, x_generator, x_known, x_without, x_rows, x_row, x_pivot, x_fresh, x_multiple, x_last, x_made, x_settled, x_point, x_limit, x_mode, x_counted, x_listed, x_held, x_first, x_squares, x_wanted, x_spanned, x_span, x_minima, x_measured, x_found, (1 : Int32))) (L1 := (LM κ (x_many, x_generator, x_known, x_without, x_rows, x_row, x_pivot, x_fresh, x_multiple, x_last, x_made, x_settled, x_point, v2, x_mode, x_counted, x_listed, x_held, x_first, x_squares, x_wanted, x_spanned, x_span, x_minima, x_measured, x_found, (1 : Int32)) X)) G 0 (by decide) lb_M rfl wsM_ok tyM tyM_ok nmM 13 (by decide) wd503 rfl rfl rfl (Nat.le_of_ble_eq_true rfl) dM_compare_113 upf_limit ?_
      refine w_iconst (pc := 116) (v := (0 : Int32)) G dM_compare_116 (by decide) ?_
      refine w_istore (pc := 117) (lv' := [(5, .int (0 : Int32)), (4, .int (1 : Int32)), (0, .ref (κ.1 0)), (1, .int v1), (2, .long v2)]) G dM_compare_117 (by decide) rfl ?_
      refine w_sub (lv' := [(0, .ref (κ.1 0)), (1, .int v1), (5, .int (0 : Int32))]) [2, 3, 0] rfl ?_
      obtain ⟨o119_10, eo119_10, h⟩ := bd h
      refine lM_compare_119_ok G X F v1 F (0 : Int32) x_found o119_10 eo119_10 ?_
      obtain rfl := Option.some.inj h
      exact w_vret (pc := 147) G dM_compare_147 Fh
    · have h := if_f c27 h
      refine w_lload_n (pc := 30) (q := 3) G dM_compare_30 rfl rfl ?_
      refine w_aload_n (pc := 31) (q := 1) G dM_compare_31 rfl rfl ?_
      refine w_get (pc := 32) (v := .long x_limit) (fs := fl_M κ (x_many, x_generator, x_known, x_without, x_rows, x_row, x_pivot, x_fresh, x_multiple, x_last, x_made, x_settled, x_point, x_limit, x_mode, x_counted, x_listed, x_held, x_first, x_squares, x_wanted, x_spanned, x_span, x_minima, x_measured, x_found, x_any)) G 0 (by decide) lb_M rfl wsM_ok 13 (by decide) wd503 gf_M_13 dM_compare_32 ?_
      refine w_lc_ne (pc := 35) (tgt := 101) G dM_compare_35 dM_compare_36 (by decide) (fun c35 => ?_) (fun c35 => ?_)
      · have h := if_t c35 h
        refine w_iconst (pc := 39) (v := (0 : Int32)) G dM_compare_39 (by decide) ?_
        refine w_istore (pc := 40) (lv' := [(5, .int (0 : Int32)), (4, .int (1 : Int32)), (0, .ref (κ.1 0)), (1, .int v1), (2, .long v2)]) G dM_compare_40 (by decide) rfl ?_
        refine w_sub (lv' := [(0, .ref (κ.1 0)), (1, .int v1), (2, .long v2), (5, .int (0 : Int32))]) [2, 3, 4, 0] rfl ?_
        obtain ⟨o42_22, eo42_22, h⟩ := bd h
        refine lM_compare_42_ok G X F v1 v2 F (0 : Int32) o42_22 eo42_22 ?_
        refine w_aload_n (pc := 74) (q := 0) G dM_compare_74 rfl rfl ?_
        refine w_get (pc := 75) (v := .ref (κ.1 7)) (fs := fl_M κ (x_many, x_generator, x_known, x_without, x_rows, x_row, x_pivot, x_fresh, x_multiple, x_last, x_made, x_settled, x_point, x_limit, x_mode, x_counted, x_listed, x_held, x_first, x_squares, x_wanted, x_spanned, x_span, x_minima, x_measured, x_found, x_any)) G 0 (by decide) lb_M rfl wsM_ok 10 (by decide) wd500 gf_M_10 dM_compare_75 ?_
        refine w_iload_n (pc := 78) (q := 1) G dM_compare_78 rfl rfl ?_
        refine w_iload (pc := 79) (q := 3) G dM_compare_79 rfl ?_
        refine w_iadd (pc := 81) G dM_compare_81 ?_
        obtain ⟨i82, h⟩ := gd_some h
        refine w_lald (pc := 82) (n := 20) (f := x_made) G 7 (by decide) lk_made i82 dM_compare_82 ?_
        refine w_aload_n (pc := 83) (q := 0) G dM_compare_83 rfl rfl ?_
        refine w_get (pc := 84) (v := .ref (κ.1 14)) (fs := fl_M κ (x_many, x_generator, x_known, x_without, x_rows, x_row, x_pivot, x_fresh, x_multiple, x_last, x_made, x_settled, x_point, x_limit, x_mode, x_counted, x_listed, x_held, x_first, x_squares, x_wanted, x_spanned, x_span, x_minima, x_measured, x_found, x_any)) G 0 (by decide) lb_M rfl wsM_ok 25 (by decide) wd515 gf_M_25 dM_compare_84 ?_
        refine w_iload (pc := 87) (q := 3) G dM_compare_87 rfl ?_
        obtain ⟨i89, h⟩ := gd_some h
        refine w_lald (pc := 89) (n := 4) (f := x_found) G 14 (by decide) lk_found i89 dM_compare_89 ?_
        refine w_lc_ge (pc := 90) (tgt := 98) G dM_compare_90 dM_compare_91 (by decide) (fun c90 => ?_) (fun c90 => ?_)
        · have h := if_t c90 h
          refine w_iconst (pc := 98) (v := (0 : Int32)) G dM_compare_98 (by decide) ?_
          refine w_istore (pc := 99) (lv' := [(4, .int (0 : Int32)), (0, .ref (κ.1 0)), (1, .int v1), (2, .long v2), (5, .int o42_22)]) G dM_compare_99 (by decide) rfl ?_
          refine w_iload (pc := 101) (q := 0) G dM_compare_101 rfl ?_
          refine w_if_eq (pc := 103) (tgt := 147) G dM_compare_103 (by decide) (fun _ => ?_) (fun c => absurd (by decide) c)
          obtain rfl := Option.some.inj h
          exact w_vret (pc := 147) G dM_compare_147 Fh
        · have h := if_f c90 h
          refine w_iconst (pc := 94) (v := (1 : Int32)) G dM_compare_94 (by decide) ?_
          refine w_goto (pc := 95) (tgt := 99) G dM_compare_95 (by decide) ?_
          refine w_istore (pc := 99) (lv' := [(4, .int (1 : Int32)), (0, .ref (κ.1 0)), (1, .int v1), (2, .long v2), (5, .int o42_22)]) G dM_compare_99 (by decide) rfl ?_
          refine w_iload (pc := 101) (q := 0) G dM_compare_101 rfl ?_
          refine w_if_eq (pc := 103) (tgt := 147) G dM_compare_103 (by decide) (fun c => absurd c (by decide)) (fun _ => ?_)
          refine w_aload_n (pc := 106) (q := 1) G dM_compare_106 rfl rfl ?_
          refine w_iconst (pc := 107) (v := (1 : Int32)) G dM_compare_107 (by decide) ?_
          refine w_put (pc := 108) (fs := fl_M κ (x_many, x_generator, x_known, x_without, x_rows, x_row, x_pivot, x_fresh, x_multiple, x_last, x_made, x_settled, x_point, x_limit, x_mode, x_counted, x_listed, x_held, x_first, x_squares, x_wanted, x_spanned, x_span, x_minima, x_measured, x_found, x_any)) (L1 := (LM κ (x_many, x_generator, x_known, x_without, x_rows, x_row, x_pivot, x_fresh, x_multiple, x_last, x_made, x_settled, x_point, x_limit, x_mode, x_counted, x_listed, x_held, x_first, x_squares, x_wanted, x_spanned, x_span, x_minima, x_measured, x_found, (1 : Int32)) X)) G 0 (by decide) lb_M rfl wsM_ok tyM tyM_ok nmM 26 (by decide) wd516 rfl rfl rfl (Nat.le_of_ble_eq_true rfl) dM_compare_108 upf_any ?_
          refine w_aload_n (pc := 111) (q := 1) G dM_compare_111 rfl rfl ?_
          refine w_lload_n (pc := 112) (q := 3) G dM_compare_112 rfl rfl ?_
          refine w_put (pc := 113) (fs := fl_M κ (x_many, x_generator, x_known, x_without, x_rows, x_row, x_pivot, x_fresh, x_multiple, x_last, x_made, x_settled, x_point, x_limit, x_mode, x_counted, x_listed, x_held, x_first, x_squares, x_wanted, x_spanned, x_span, x_minima, x_measured, x_found, (1 : Int32))) (L1 := (LM κ (x_many, x_generator, x_known, x_without, x_rows, x_row, x_pivot, x_fresh, x_multiple, x_last, x_made, x_settled, x_point, v2, x_mode, x_counted, x_listed, x_held, x_first, x_squares, x_wanted, x_spanned, x_span, x_minima, x_measured, x_found, (1 : Int32)) X)) G 0 (by decide) lb_M rfl wsM_ok tyM tyM_ok nmM 13 (by decide) wd503 rfl rfl rfl (Nat.le_of_ble_eq_true rfl) dM_compare_113 upf_limit ?_
          refine w_iconst (pc := 116) (v := (0 : Int32)) G dM_compare_116 (by decide) ?_
          refine w_istore (pc := 117) (lv' := [(5, .int (0 : Int32)), (4, .int (1 : Int32)), (0, .ref (κ.1 0)), (1, .int v1), (2, .long v2)]) G dM_compare_117 (by decide) rfl ?_
          refine w_sub (lv' := [(0, .ref (κ.1 0)), (1, .int v1), (5, .int (0 : Int32))]) [2, 3, 0] rfl ?_
          obtain ⟨o119_26, eo119_26, h⟩ := bd h
          refine lM_compare_119_ok G X F v1 F (0 : Int32) x_found o119_26 eo119_26 ?_
          obtain rfl := Option.some.inj h
          exact w_vret (pc := 147) G dM_compare_147 Fh
      · have h := if_f c35 h
        refine w_iload (pc := 101) (q := 0) G dM_compare_101 rfl ?_
        refine w_if_eq (pc := 103) (tgt := 147) G dM_compare_103 (by decide) (fun c => absurd c (by decide)) (fun _ => ?_)
        refine w_aload_n (pc := 106) (q := 1) G dM_compare_106 rfl rfl ?_
        refine w_iconst (pc := 107) (v := (1 : Int32)) G dM_compare_107 (by decide) ?_
        refine w_put (pc := 108) (fs := fl_M κ (x_many, x_generator, x_known, x_without, x_rows, x_row, x_pivot, x_fresh, x_multiple, x_last, x_made, x_settled, x_point, x_limit, x_mode, x_counted, x_listed, x_held, x_first, x_squares, x_wanted, x_spanned, x_span, x_minima, x_measured, x_found, x_any)) (L1 := (LM κ (x_many, x_generator, x_known, x_without, x_rows, x_row, x_pivot, x_fresh, x_multiple, x_last, x_made, x_settled, x_point, x_limit, x_mode, x_counted, x_listed, x_held, x_first, x_squares, x_wanted, x_spanned, x_span, x_minima, x_measured, x_found, (1 : Int32)) X)) G 0 (by decide) lb_M rfl wsM_ok tyM tyM_ok nmM 26 (by decide) wd516 rfl rfl rfl (Nat.le_of_ble_eq_true rfl) dM_compare_108 upf_any ?_
        refine w_aload_n (pc := 111) (q := 1) G dM_compare_111 rfl rfl ?_
        refine w_lload_n (pc := 112) (q := 3) G dM_compare_112 rfl rfl ?_
        refine w_put (pc := 113) (fs := fl_M κ (x_many, x_generator, x_known, x_without, x_rows, x_row, x_pivot, x_fresh, x_multiple, x_last, x_made, x_settled, x_point, x_limit, x_mode, x_counted, x_listed, x_held, x_first, x_squares, x_wanted, x_spanned, x_span, x_minima, x_measured, x_found, (1 : Int32))) (L1 := (LM κ (x_many, x_generator, x_known, x_without, x_rows, x_row, x_pivot, x_fresh, x_multiple, x_last, x_made, x_settled, x_point, v2, x_mode, x_counted, x_listed, x_held, x_first, x_squares, x_wanted, x_spanned, x_span, x_minima, x_measured, x_found, (1 : Int32)) X)) G 0 (by decide) lb_M rfl wsM_ok tyM tyM_ok nmM 13 (by decide) wd503 rfl rfl rfl (Nat.le_of_ble_eq_true rfl) dM_compare_113 upf_limit ?_
        refine w_iconst (pc := 116) (v := (0 : Int32)) G dM_compare_116 (by decide) ?_
        refine w_istore (pc := 117) (lv' := [(5, .int (0 : Int32)), (4, .int (1 : Int32)), (0, .ref (κ.1 0)), (1, .int v1), (2, .long v2)]) G dM_compare_117 (by decide) rfl ?_
        refine w_sub (lv' := [(0, .ref (κ.1 0)), (1, .int v1), (5, .int (0 : Int32))]) [2, 3, 0] rfl ?_
        obtain ⟨o119_28, eo119_28, h⟩ := bd h
        refine lM_compare_119_ok G X F v1 F (0 : Int32) x_found o119_28 eo119_28 ?_
        obtain rfl := Option.some.inj h
        exact w_vret (pc := 147) G dM_compare_147 Fh
  · have h := if_f c4 h
    refine w_lload_n (pc := 7) (q := 2) G dM_compare_7 rfl rfl ?_
    refine w_aload_n (pc := 8) (q := 0) G dM_compare_8 rfl rfl ?_
    refine w_get (pc := 9) (v := .long x_limit) (fs := fl_M κ (x_many, x_generator, x_known, x_without, x_rows, x_row, x_pivot, x_fresh, x_multiple, x_last, x_made, x_settled, x_point, x_limit, x_mode, x_counted, x_listed, x_held, x_first, x_squares, x_wanted, x_spanned, x_span, x_minima, x_measured, x_found, x_any)) G 0 (by decide) lb_M rfl wsM_ok 13 (by decide) wd503 gf_M_13 dM_compare_9 ?_
    refine w_lc_ge (pc := 12) (tgt := 20) G dM_compare_12 dM_compare_13 (by decide) (fun c12 => ?_) (fun c12 => ?_)
    · have h := if_t c12 h
      refine w_iconst (pc := 20) (v := (0 : Int32)) G dM_compare_20 (by decide) ?_
      refine w_istore (pc := 21) (lv' := [(4, .int (0 : Int32)), (0, .ref (κ.1 0)), (1, .int v1), (2, .long v2)]) G dM_compare_21 (by decide) rfl ?_
      refine w_aload_n (pc := 23) (q := 1) G dM_compare_23 rfl rfl ?_
      refine w_get (pc := 24) (v := .int x_any) (fs := fl_M κ (x_many, x_generator, x_known, x_without, x_rows, x_row, x_pivot, x_fresh, x_multiple, x_last, x_made, x_settled, x_point, x_limit, x_mode, x_counted, x_listed, x_held, x_first, x_squares, x_wanted, x_spanned, x_span, x_minima, x_measured, x_found, x_any)) G 0 (by decide) lb_M rfl wsM_ok 26 (by decide) wd516 gf_M_26 dM_compare_24 ?_
      refine w_if_eq (pc := 27) (tgt := 101) G dM_compare_27 (by decide) (fun c27 => ?_) (fun c27 => ?_)
      · have h := if_t c27 h
        refine w_iload (pc := 101) (q := 0) G dM_compare_101 rfl ?_
        refine w_if_eq (pc := 103) (tgt := 147) G dM_compare_103 (by decide) (fun _ => ?_) (fun c => absurd (by decide) c)
        obtain rfl := Option.some.inj h
        exact w_vret (pc := 147) G dM_compare_147 Fh
      · have h := if_f c27 h
        refine w_lload_n (pc := 30) (q := 3) G dM_compare_30 rfl rfl ?_
        refine w_aload_n (pc := 31) (q := 1) G dM_compare_31 rfl rfl ?_
        refine w_get (pc := 32) (v := .long x_limit) (fs := fl_M κ (x_many, x_generator, x_known, x_without, x_rows, x_row, x_pivot, x_fresh, x_multiple, x_last, x_made, x_settled, x_point, x_limit, x_mode, x_counted, x_listed, x_held, x_first, x_squares, x_wanted, x_spanned, x_span, x_minima, x_measured, x_found, x_any)) G 0 (by decide) lb_M rfl wsM_ok 13 (by decide) wd503 gf_M_13 dM_compare_32 ?_
        refine w_lc_ne (pc := 35) (tgt := 101) G dM_compare_35 dM_compare_36 (by decide) (fun c35 => ?_) (fun c35 => ?_)
        · have h := if_t c35 h
          refine w_iconst (pc := 39) (v := (0 : Int32)) G dM_compare_39 (by decide) ?_
          refine w_istore (pc := 40) (lv' := [(5, .int (0 : Int32)), (4, .int (0 : Int32)), (0, .ref (κ.1 0)), (1, .int v1), (2, .long v2)]) G dM_compare_40 (by decide) rfl ?_
          refine w_sub (lv' := [(0, .ref (κ.1 0)), (1, .int v1), (2, .long v2), (5, .int (0 : Int32))]) [2, 3, 4, 0] rfl ?_
          obtain ⟨o42_34, eo42_34, h⟩ := bd h
          refine lM_compare_42_ok G X F v1 v2 F (0 : Int32) o42_34 eo42_34 ?_
          refine w_aload_n (pc := 74) (q := 0) G dM_compare_74 rfl rfl ?_
          refine w_get (pc := 75) (v := .ref (κ.1 7)) (fs := fl_M κ (x_many, x_generator, x_known, x_without, x_rows, x_row, x_pivot, x_fresh, x_multiple, x_last, x_made, x_settled, x_point, x_limit, x_mode, x_counted, x_listed, x_held, x_first, x_squares, x_wanted, x_spanned, x_span, x_minima, x_measured, x_found, x_any)) G 0 (by decide) lb_M rfl wsM_ok 10 (by decide) wd500 gf_M_10 dM_compare_75 ?_
          refine w_iload_n (pc := 78) (q := 1) G dM_compare_78 rfl rfl ?_
          refine w_iload (pc := 79) (q := 3) G dM_compare_79 rfl ?_
          refine w_iadd (pc := 81) G dM_compare_81 ?_
          obtain ⟨i82, h⟩ := gd_some h
          refine w_lald (pc := 82) (n := 20) (f := x_made) G 7 (by decide) lk_made i82 dM_compare_82 ?_
          refine w_aload_n (pc := 83) (q := 0) G dM_compare_83 rfl rfl ?_
          refine w_get (pc := 84) (v := .ref (κ.1 14)) (fs := fl_M κ (x_many, x_generator, x_known, x_without, x_rows, x_row, x_pivot, x_fresh, x_multiple, x_last, x_made, x_settled, x_point, x_limit, x_mode, x_counted, x_listed, x_held, x_first, x_squares, x_wanted, x_spanned, x_span, x_minima, x_measured, x_found, x_any)) G 0 (by decide) lb_M rfl wsM_ok 25 (by decide) wd515 gf_M_25 dM_compare_84 ?_
          refine w_iload (pc := 87) (q := 3) G dM_compare_87 rfl ?_
          obtain ⟨i89, h⟩ := gd_some h
          refine w_lald (pc := 89) (n := 4) (f := x_found) G 14 (by decide) lk_found i89 dM_compare_89 ?_
          refine w_lc_ge (pc := 90) (tgt := 98) G dM_compare_90 dM_compare_91 (by decide) (fun c90 => ?_) (fun c90 => ?_)
          · have h := if_t c90 h
            refine w_iconst (pc := 98) (v := (0 : Int32)) G dM_compare_98 (by decide) ?_
            refine w_istore (pc := 99) (lv' := [(4, .int (0 : Int32)), (0, .ref (κ.1 0)), (1, .int v1), (2, .long v2), (5, .int o42_34)]) G dM_compare_99 (by decide) rfl ?_
            refine w_iload (pc := 101) (q := 0) G dM_compare_101 rfl ?_
            refine w_if_eq (pc := 103) (tgt := 147) G dM_compare_103 (by decide) (fun _ => ?_) (fun c => absurd (by decide) c)
            obtain rfl := Option.some.inj h
            exact w_vret (pc := 147) G dM_compare_147 Fh
          · have h := if_f c90 h
            refine w_iconst (pc := 94) (v := (1 : Int32)) G dM_compare_94 (by decide) ?_
            refine w_goto (pc := 95) (tgt := 99) G dM_compare_95 (by decide) ?_
            refine w_istore (pc := 99) (lv' := [(4, .int (1 : Int32)), (0, .ref (κ.1 0)), (1, .int v1), (2, .long v2), (5, .int o42_34)]) G dM_compare_99 (by decide) rfl ?_
            refine w_iload (pc := 101) (q := 0) G dM_compare_101 rfl ?_
            refine w_if_eq (pc := 103) (tgt := 147) G dM_compare_103 (by decide) (fun c => absurd c (by decide)) (fun _ => ?_)
            refine w_aload_n (pc := 106) (q := 1) G dM_compare_106 rfl rfl ?_
            refine w_iconst (pc := 107) (v := (1 : Int32)) G dM_compare_107 (by decide) ?_
            refine w_put (pc := 108) (fs := fl_M κ (x_many, x_generator, x_known, x_without, x_rows, x_row, x_pivot, x_fresh, x_multiple, x_last, x_made, x_settled, x_point, x_limit, x_mode, x_counted, x_listed, x_held, x_first, x_squares, x_wanted, x_spanned, x_span, x_minima, x_measured, x_found, x_any)) (L1 := (LM κ (x_many, x_generator, x_known, x_without, x_rows, x_row, x_pivot, x_fresh, x_multiple, x_last, x_made, x_settled, x_point, x_limit, x_mode, x_counted, x_listed, x_held, x_first, x_squares, x_wanted, x_spanned, x_span, x_minima, x_measured, x_found, (1 : Int32)) X)) G 0 (by decide) lb_M rfl wsM_ok tyM tyM_ok nmM 26 (by decide) wd516 rfl rfl rfl (Nat.le_of_ble_eq_true rfl) dM_compare_108 upf_any ?_
            refine w_aload_n (pc := 111) (q := 1) G dM_compare_111 rfl rfl ?_
            refine w_lload_n (pc := 112) (q := 3) G dM_compare_112 rfl rfl ?_
            refine w_put (pc := 113) (fs := fl_M κ (x_many, x_generator, x_known, x_without, x_rows, x_row, x_pivot, x_fresh, x_multiple, x_last, x_made, x_settled, x_point, x_limit, x_mode, x_counted, x_listed, x_held, x_first, x_squares, x_wanted, x_spanned, x_span, x_minima, x_measured, x_found, (1 : Int32))) (L1 := (LM κ (x_many, x_generator, x_known, x_without, x_rows, x_row, x_pivot, x_fresh, x_multiple, x_last, x_made, x_settled, x_point, v2, x_mode, x_counted, x_listed, x_held, x_first, x_squares, x_wanted, x_spanned, x_span, x_minima, x_measured, x_found, (1 : Int32)) X)) G 0 (by decide) lb_M rfl wsM_ok tyM tyM_ok nmM 13 (by decide) wd503 rfl rfl rfl (Nat.le_of_ble_eq_true rfl) dM_compare_113 upf_limit ?_
            refine w_iconst (pc := 116) (v := (0 : Int32)) G dM_compare_116 (by decide) ?_
            refine w_istore (pc := 117) (lv' := [(5, .int (0 : Int32)), (4, .int (1 : Int32)), (0, .ref (κ.1 0)), (1, .int v1), (2, .long v2)]) G dM_compare_117 (by decide) rfl ?_
            refine w_sub (lv' := [(0, .ref (κ.1 0)), (1, .int v1), (5, .int (0 : Int32))]) [2, 3, 0] rfl ?_
            obtain ⟨o119_38, eo119_38, h⟩ := bd h
            refine lM_compare_119_ok G X F v1 F (0 : Int32) x_found o119_38 eo119_38 ?_
            obtain rfl := Option.some.inj h
            exact w_vret (pc := 147) G dM_compare_147 Fh
        · have h := if_f c35 h
          refine w_iload (pc := 101) (q := 0) G dM_compare_101 rfl ?_
          refine w_if_eq (pc := 103) (tgt := 147) G dM_compare_103 (by decide) (fun _ => ?_) (fun c => absurd (by decide) c)
          obtain rfl := Option.some.inj h
          exact w_vret (pc := 147) G dM_compare_147 Fh
    · have h := if_f c12 h
      refine w_iconst (pc := 16) (v := (1 : Int32)) G dM_compare_16 (by decide) ?_
      refine w_goto (pc := 17) (tgt := 21) G dM_compare_17 (by decide) ?_
      refine w_istore (pc := 21) (lv' := [(4, .int (1 : Int32)), (0, .ref (κ.1 0)), (1, .int v1), (2, .long v2)]) G dM_compare_21 (by decide) rfl ?_
      refine w_aload_n (pc := 23) (q := 1) G dM_compare_23 rfl rfl ?_
      refine w_get (pc := 24) (v := .int x_any) (fs := fl_M κ (x_many, x_generator, x_known, x_without, x_rows, x_row, x_pivot, x_fresh, x_multiple, x_last, x_made, x_settled, x_point, x_limit, x_mode, x_counted, x_listed, x_held, x_first, x_squares, x_wanted, x_spanned, x_span, x_minima, x_measured, x_found, x_any)) G 0 (by decide) lb_M rfl wsM_ok 26 (by decide) wd516 gf_M_26 dM_compare_24 ?_
      refine w_if_eq (pc := 27) (tgt := 101) G dM_compare_27 (by decide) (fun c27 => ?_) (fun c27 => ?_)
      · have h := if_t c27 h
        refine w_iload (pc := 101) (q := 0) G dM_compare_101 rfl ?_
        refine w_if_eq (pc := 103) (tgt := 147) G dM_compare_103 (by decide) (fun c => absurd c (by decide)) (fun _ => ?_)
        refine w_aload_n (pc := 106) (q := 1) G dM_compare_106 rfl rfl ?_
        refine w_iconst (pc := 107) (v := (1 : Int32)) G dM_compare_107 (by decide) ?_
        refine w_put (pc := 108) (fs := fl_M κ (x_many, x_generator, x_known, x_without, x_rows, x_row, x_pivot, x_fresh, x_multiple, x_last, x_made, x_settled, x_point, x_limit, x_mode, x_counted, x_listed, x_held, x_first, x_squares, x_wanted, x_spanned, x_span, x_minima, x_measured, x_found, x_any)) (L1 := (LM κ (x_many, x_generator, x_known, x_without, x_rows, x_row, x_pivot, x_fresh, x_multiple, x_last, x_made, x_settled, x_point, x_limit, x_mode, x_counted, x_listed, x_held, x_first, x_squares, x_wanted, x_spanned, x_span, x_minima, x_measured, x_found, (1 : Int32)) X)) G 0 (by decide) lb_M rfl wsM_ok tyM tyM_ok nmM 26 (by decide) wd516 rfl rfl rfl (Nat.le_of_ble_eq_true rfl) dM_compare_108 upf_any ?_
        refine w_aload_n (pc := 111) (q := 1) G dM_compare_111 rfl rfl ?_
        refine w_lload_n (pc := 112) (q := 3) G dM_compare_112 rfl rfl ?_
        refine w_put (pc := 113) (fs := fl_M κ (x_many, x_generator, x_known, x_without, x_rows, x_row, x_pivot, x_fresh, x_multiple, x_last, x_made, x_settled, x_point, x_limit, x_mode, x_counted, x_listed, x_held, x_first, x_squares, x_wanted, x_spanned, x_span, x_minima, x_measured, x_found, (1 : Int32))) (L1 := (LM κ (x_many, x_generator, x_known, x_without, x_rows, x_row, x_pivot, x_fresh, x_multiple, x_last, x_made, x_settled, x_point, v2, x_mode, x_counted, x_listed, x_held, x_first, x_squares, x_wanted, x_spanned, x_span, x_minima, x_measured, x_found, (1 : Int32)) X)) G 0 (by decide) lb_M rfl wsM_ok tyM tyM_ok nmM 13 (by decide) wd503 rfl rfl rfl (Nat.le_of_ble_eq_true rfl) dM_compare_113 upf_limit ?_
        refine w_iconst (pc := 116) (v := (0 : Int32)) G dM_compare_116 (by decide) ?_
        refine w_istore (pc := 117) (lv' := [(5, .int (0 : Int32)), (4, .int (1 : Int32)), (0, .ref (κ.1 0)), (1, .int v1), (2, .long v2)]) G dM_compare_117 (by decide) rfl ?_
        refine w_sub (lv' := [(0, .ref (κ.1 0)), (1, .int v1), (5, .int (0 : Int32))]) [2, 3, 0] rfl ?_
        obtain ⟨o119_43, eo119_43, h⟩ := bd h
        refine lM_compare_119_ok G X F v1 F (0 : Int32) x_found o119_43 eo119_43 ?_
        obtain rfl := Option.some.inj h
        exact w_vret (pc := 147) G dM_compare_147 Fh
      · have h := if_f c27 h
        refine w_lload_n (pc := 30) (q := 3) G dM_compare_30 rfl rfl ?_
        refine w_aload_n (pc := 31) (q := 1) G dM_compare_31 rfl rfl ?_
        refine w_get (pc := 32) (v := .long x_limit) (fs := fl_M κ (x_many, x_generator, x_known, x_without, x_rows, x_row, x_pivot, x_fresh, x_multiple, x_last, x_made, x_settled, x_point, x_limit, x_mode, x_counted, x_listed, x_held, x_first, x_squares, x_wanted, x_spanned, x_span, x_minima, x_measured, x_found, x_any)) G 0 (by decide) lb_M rfl wsM_ok 13 (by decide) wd503 gf_M_13 dM_compare_32 ?_
        refine w_lc_ne (pc := 35) (tgt := 101) G dM_compare_35 dM_compare_36 (by decide) (fun c35 => ?_) (fun c35 => ?_)
        · have h := if_t c35 h
          refine w_iconst (pc := 39) (v := (0 : Int32)) G dM_compare_39 (by decide) ?_
          refine w_istore (pc := 40) (lv' := [(5, .int (0 : Int32)), (4, .int (1 : Int32)), (0, .ref (κ.1 0)), (1, .int v1), (2, .long v2)]) G dM_compare_40 (by decide) rfl ?_
          refine w_sub (lv' := [(0, .ref (κ.1 0)), (1, .int v1), (2, .long v2), (5, .int (0 : Int32))]) [2, 3, 4, 0] rfl ?_
          obtain ⟨o42_45, eo42_45, h⟩ := bd h
          refine lM_compare_42_ok G X F v1 v2 F (0 : Int32) o42_45 eo42_45 ?_
          refine w_aload_n (pc := 74) (q := 0) G dM_compare_74 rfl rfl ?_
          refine w_get (pc := 75) (v := .ref (κ.1 7)) (fs := fl_M κ (x_many, x_generator, x_known, x_without, x_rows, x_row, x_pivot, x_fresh, x_multiple, x_last, x_made, x_settled, x_point, x_limit, x_mode, x_counted, x_listed, x_held, x_first, x_squares, x_wanted, x_spanned, x_span, x_minima, x_measured, x_found, x_any)) G 0 (by decide) lb_M rfl wsM_ok 10 (by decide) wd500 gf_M_10 dM_compare_75 ?_
          refine w_iload_n (pc := 78) (q := 1) G dM_compare_78 rfl rfl ?_
          refine w_iload (pc := 79) (q := 3) G dM_compare_79 rfl ?_
          refine w_iadd (pc := 81) G dM_compare_81 ?_
          obtain ⟨i82, h⟩ := gd_some h
          refine w_lald (pc := 82) (n := 20) (f := x_made) G 7 (by decide) lk_made i82 dM_compare_82 ?_
          refine w_aload_n (pc := 83) (q := 0) G dM_compare_83 rfl rfl ?_
          refine w_get (pc := 84) (v := .ref (κ.1 14)) (fs := fl_M κ (x_many, x_generator, x_known, x_without, x_rows, x_row, x_pivot, x_fresh, x_multiple, x_last, x_made, x_settled, x_point, x_limit, x_mode, x_counted, x_listed, x_held, x_first, x_squares, x_wanted, x_spanned, x_span, x_minima, x_measured, x_found, x_any)) G 0 (by decide) lb_M rfl wsM_ok 25 (by decide) wd515 gf_M_25 dM_compare_84 ?_
          refine w_iload (pc := 87) (q := 3) G dM_compare_87 rfl ?_
          obtain ⟨i89, h⟩ := gd_some h
          refine w_lald (pc := 89) (n := 4) (f := x_found) G 14 (by decide) lk_found i89 dM_compare_89 ?_
          refine w_lc_ge (pc := 90) (tgt := 98) G dM_compare_90 dM_compare_91 (by decide) (fun c90 => ?_) (fun c90 => ?_)
          · have h := if_t c90 h
            refine w_iconst (pc := 98) (v := (0 : Int32)) G dM_compare_98 (by decide) ?_
            refine w_istore (pc := 99) (lv' := [(4, .int (0 : Int32)), (0, .ref (κ.1 0)), (1, .int v1), (2, .long v2), (5, .int o42_45)]) G dM_compare_99 (by decide) rfl ?_
            refine w_iload (pc := 101) (q := 0) G dM_compare_101 rfl ?_
            refine w_if_eq (pc := 103) (tgt := 147) G dM_compare_103 (by decide) (fun _ => ?_) (fun c => absurd (by decide) c)
            obtain rfl := Option.some.inj h
            exact w_vret (pc := 147) G dM_compare_147 Fh
          · have h := if_f c90 h
            refine w_iconst (pc := 94) (v := (1 : Int32)) G dM_compare_94 (by decide) ?_
            refine w_goto (pc := 95) (tgt := 99) G dM_compare_95 (by decide) ?_
            refine w_istore (pc := 99) (lv' := [(4, .int (1 : Int32)), (0, .ref (κ.1 0)), (1, .int v1), (2, .long v2), (5, .int o42_45)]) G dM_compare_99 (by decide) rfl ?_
            refine w_iload (pc := 101) (q := 0) G dM_compare_101 rfl ?_
            refine w_if_eq (pc := 103) (tgt := 147) G dM_compare_103 (by decide) (fun c => absurd c (by decide)) (fun _ => ?_)
            refine w_aload_n (pc := 106) (q := 1) G dM_compare_106 rfl rfl ?_
            refine w_iconst (pc := 107) (v := (1 : Int32)) G dM_compare_107 (by decide) ?_
            refine w_put (pc := 108) (fs := fl_M κ (x_many, x_generator, x_known, x_without, x_rows, x_row, x_pivot, x_fresh, x_multiple, x_last, x_made, x_settled, x_point, x_limit, x_mode, x_counted, x_listed, x_held, x_first, x_squares, x_wanted, x_spanned, x_span, x_minima, x_measured, x_found, x_any)) (L1 := (LM κ (x_many, x_generator, x_known, x_without, x_rows, x_row, x_pivot, x_fresh, x_multiple, x_last, x_made, x_settled, x_point, x_limit, x_mode, x_counted, x_listed, x_held, x_first, x_squares, x_wanted, x_spanned, x_span, x_minima, x_measured, x_found, (1 : Int32)) X)) G 0 (by decide) lb_M rfl wsM_ok tyM tyM_ok nmM 26 (by decide) wd516 rfl rfl rfl (Nat.le_of_ble_eq_true rfl) dM_compare_108 upf_any ?_
            refine w_aload_n (pc := 111) (q := 1) G dM_compare_111 rfl rfl ?_
            refine w_lload_n (pc := 112) (q := 3) G dM_compare_112 rfl rfl ?_
            refine w_put (pc := 113) (fs := fl_M κ (x_many, x_generator, x_known, x_without, x_rows, x_row, x_pivot, x_fresh, x_multiple, x_last, x_made, x_settled, x_point, x_limit, x_mode, x_counted, x_listed, x_held, x_first, x_squares, x_wanted, x_spanned, x_span, x_minima, x_measured, x_found, (1 : Int32))) (L1 := (LM κ (x_many, x_generator, x_known, x_without, x_rows, x_row, x_pivot, x_fresh, x_multiple, x_last, x_made, x_settled, x_point, v2, x_mode, x_counted, x_listed, x_held, x_first, x_squares, x_wanted, x_spanned, x_span, x_minima, x_measured, x_found, (1 : Int32)) X)) G 0 (by decide) lb_M rfl wsM_ok tyM tyM_ok nmM 13 (by decide) wd503 rfl rfl rfl (Nat.le_of_ble_eq_true rfl) dM_compare_113 upf_limit ?_
            refine w_iconst (pc := 116) (v := (0 : Int32)) G dM_compare_116 (by decide) ?_
            refine w_istore (pc := 117) (lv' := [(5, .int (0 : Int32)), (4, .int (1 : Int32)), (0, .ref (κ.1 0)), (1, .int v1), (2, .long v2)]) G dM_compare_117 (by decide) rfl ?_
            refine w_sub (lv' := [(0, .ref (κ.1 0)), (1, .int v1), (5, .int (0 : Int32))]) [2, 3, 0] rfl ?_
            obtain ⟨o119_49, eo119_49, h⟩ := bd h
            refine lM_compare_119_ok G X F v1 F (0 : Int32) x_found o119_49 eo119_49 ?_
            obtain rfl := Option.some.inj h
            exact w_vret (pc := 147) G dM_compare_147 Fh
        · have h := if_f c35 h
          refine w_iload (pc := 101) (q := 0) G dM_compare_101 rfl ?_
          refine w_if_eq (pc := 103) (tgt := 147) G dM_compare_103 (by decide) (fun c => absurd c (by decide)) (fun _ => ?_)
          refine w_aload_n (pc := 106) (q := 1) G dM_compare_106 rfl rfl ?_
          refine w_iconst (pc := 107) (v := (1 : Int32)) G dM_compare_107 (by decide) ?_
          refine w_put (pc := 108) (fs := fl_M κ (x_many, x_generator, x_known, x_without, x_rows, x_row, x_pivot, x_fresh, x_multiple, x_last, x_made, x_settled, x_point, x_limit, x_mode, x_counted, x_listed, x_held, x_first, x_squares, x_wanted, x_spanned, x_span, x_minima, x_measured, x_found, x_any)) (L1 := (LM κ (x_many, x_generator, x_known, x_without, x_rows, x_row, x_pivot, x_fresh, x_multiple, x_last, x_made, x_settled, x_point, x_limit, x_mode, x_counted, x_listed, x_held, x_first, x_squares, x_wanted, x_spanned, x_span, x_minima, x_measured, x_found, (1 : Int32)) X)) G 0 (by decide) lb_M rfl wsM_ok tyM tyM_ok nmM 26 (by decide) wd516 rfl rfl rfl (Nat.le_of_ble_eq_true rfl) dM_compare_108 upf_any ?_
          refine w_aload_n (pc := 111) (q := 1) G dM_compare_111 rfl rfl ?_
          refine w_lload_n (pc := 112) (q := 3) G dM_compare_112 rfl rfl ?_
          refine w_put (pc := 113) (fs := fl_M κ (x_many, x_generator, x_known, x_without, x_rows, x_row, x_pivot, x_fresh, x_multiple, x_last, x_made, x_settled, x_point, x_limit, x_mode, x_counted, x_listed, x_held, x_first, x_squares, x_wanted, x_spanned, x_span, x_minima, x_measured, x_found, (1 : Int32))) (L1 := (LM κ (x_many, x_generator, x_known, x_without, x_rows, x_row, x_pivot, x_fresh, x_multiple, x_last, x_made, x_settled, x_point, v2, x_mode, x_counted, x_listed, x_held, x_first, x_squares, x_wanted, x_spanned, x_span, x_minima, x_measured, x_found, (1 : Int32)) X)) G 0 (by decide) lb_M rfl wsM_ok tyM tyM_ok nmM 13 (by decide) wd503 rfl rfl rfl (Nat.le_of_ble_eq_true rfl) dM_compare_113 upf_limit ?_
          refine w_iconst (pc := 116) (v := (0 : Int32)) G dM_compare_116 (by decide) ?_
          refine w_istore (pc := 117) (lv' := [(5, .int (0 : Int32)), (4, .int (1 : Int32)), (0, .ref (κ.1 0)), (1, .int v1), (2, .long v2)]) G dM_compare_117 (by decide) rfl ?_
          refine w_sub (lv' := [(0, .ref (κ.1 0)), (1, .int v1), (5, .int (0 : Int32))]) [2, 3, 0] rfl ?_
          obtain ⟨o119_51, eo119_51, h⟩ := bd h
          refine lM_compare_119_ok G X F v1 F (0 : Int32) x_found o119_51 eo119_51 ?_
          obtain rfl := Option.some.inj h
          exact w_vret (pc := 147) G dM_compare_147 Fh
def rm_M_visit : Room := { frames := 3, cells := 0, slots := 0, locals := 80 }
theorem dM_visit_0 : decode cM_visit 0 = .ok (.aload_n 0, 1) := by decide +kernel
theorem dM_visit_1 : decode cM_visit 1 = .ok (.getfield 146, 3) := by decide +kernel
theorem dM_visit_4 : decode cM_visit 4 = .ok (.tableswitch 58 0 2 #[28, 41, 50], 28) := by decide +kernel
theorem dM_visit_32 : decode cM_visit 32 = .ok (.aload_n 0, 1) := by decide +kernel
theorem dM_visit_33 : decode cM_visit 33 = .ok (.dup, 1) := by decide +kernel
theorem dM_visit_34 : decode cM_visit 34 = .ok (.getfield 169, 3) := by decide +kernel
theorem dM_visit_37 : decode cM_visit 37 = .ok (.iconst 1, 1) := by decide +kernel
theorem dM_visit_38 : decode cM_visit 38 = .ok (.iadd, 1) := by decide +kernel
theorem dM_visit_39 : decode cM_visit 39 = .ok (.putfield 169, 3) := by decide +kernel
theorem dM_visit_42 : decode cM_visit 42 = .ok (.goto 26, 3) := by decide +kernel
theorem dM_visit_45 : decode cM_visit 45 = .ok (.aload_n 0, 1) := by decide +kernel
theorem dM_visit_46 : decode cM_visit 46 = .ok (.iload_n 1, 1) := by decide +kernel
theorem dM_visit_47 : decode cM_visit 47 = .ok (.lload_n 2, 1) := by decide +kernel
theorem dM_visit_48 : decode cM_visit 48 = .ok (.invokevirtual 172, 3) := by decide +kernel
theorem dM_visit_51 : decode cM_visit 51 = .ok (.goto 17, 3) := by decide +kernel
theorem dM_visit_54 : decode cM_visit 54 = .ok (.aload_n 0, 1) := by decide +kernel
theorem dM_visit_55 : decode cM_visit 55 = .ok (.iload_n 1, 1) := by decide +kernel
theorem dM_visit_56 : decode cM_visit 56 = .ok (.invokevirtual 175, 3) := by decide +kernel
theorem dM_visit_59 : decode cM_visit 59 = .ok (.goto 9, 3) := by decide +kernel
theorem dM_visit_62 : decode cM_visit 62 = .ok (.aload_n 0, 1) := by decide +kernel
theorem dM_visit_63 : decode cM_visit 63 = .ok (.iload_n 1, 1) := by decide +kernel
theorem dM_visit_64 : decode cM_visit 64 = .ok (.lload_n 2, 1) := by decide +kernel
theorem dM_visit_65 : decode cM_visit 65 = .ok (.invokevirtual 178, 3) := by decide +kernel
theorem dM_visit_68 : decode cM_visit 68 = .ok (.return_, 1) := by decide +kernel
theorem cb_M_compare_M_visit : CB yM_compare cM_compare 6 none rm_M_compare rm_M_visit 2 := ⟨wd705, wd8, by decide +kernel, rfl, rfl, by decide⟩
theorem cb_M_extend_M_visit : CB yM_extend cM_extend 9 none rm_M_extend rm_M_visit 1 := ⟨wd693, wd8, by decide +kernel, rfl, rfl, by decide⟩
theorem cb_M_sortIn_M_visit : CB yM_sortIn cM_sortIn 6 none rm_M_sortIn rm_M_visit 2 := ⟨wd685, wd8, by decide +kernel, rfl, rfl, by decide⟩
noncomputable def M_visit (F : Nat) (x_fresh : Nat → Int64) (x_made : Nat → Int64) (x_limit : Int64) (x_mode : Int32) (x_counted : Int32) (x_held : Int32) (x_first : Nat → Int64) (x_squares : Nat → Int64) (x_spanned : Int32) (x_span : Nat → Int64) (x_found : Nat → Int64) (x_any : Int32) (v1 : Int32) (v2 : Int64) : Option ((Nat → Int64) × Int64 × Int32 × Int32 × (Nat → Int64) × (Nat → Int64) × Int32 × (Nat → Int64) × (Nat → Int64) × Int32) := if x_mode = (0 : Int32) then some (x_fresh, x_limit, (x_counted + (1 : Int32)), x_held, x_first, x_squares, x_spanned, x_span, x_found, x_any) else if x_mode = (1 : Int32) then (M_sortIn F x_made x_held x_first x_squares v1 v2).bind (fun r48 => some (x_fresh, x_limit, x_counted, r48.1, r48.2.1, r48.2.2, x_spanned, x_span, x_found, x_any)) else if x_mode = (2 : Int32) then (M_extend F x_fresh x_made x_spanned x_span v1).bind (fun r56 => some (r56.1, x_limit, x_counted, x_held, x_first, x_squares, r56.2.1, r56.2.2, x_found, x_any)) else (M_compare F x_made x_limit x_found x_any v1 v2).bind (fun r65 => some (x_fresh, r65.1, x_counted, x_held, x_first, x_squares, x_spanned, x_span, r65.2.1, r65.2.2))
set_option maxHeartbeats 8000000 in
set_option maxRecDepth 100000 in
theorem met_M_visit (κ : ctx) (X : Nat → va_E) (F : Nat) {x_many : Int32} {x_generator : Nat → Int32} {x_known : Int32} {x_without : Int32} {x_rows : Int32} {x_row : Nat → Int64} {x_pivot : Nat → Int32} {x_fresh : Nat → Int64} {x_multiple : Nat → Int64} {x_last : Nat → Int64} {x_made : Nat → Int64} {x_settled : Nat → Int64} {x_point : Nat → Int64} {x_limit : Int64} {x_mode : Int32} {x_counted : Int32} {x_listed : Int32} {x_held : Int32} {x_first : Nat → Int64} {x_squares : Nat → Int64} {x_wanted : Int32} {x_spanned : Int32} {x_span : Nat → Int64} {x_minima : Nat → Int32} {x_measured : Int32} {x_found : Nat → Int64} {x_any : Int32} (v1 : Int32) (v2 : Int64) {out : (Nat → Int64) × Int64 × Int32 × Int32 × (Nat → Int64) × (Nat → Int64) × Int32 × (Nat → Int64) × (Nat → Int64) × Int32} (h : M_visit F x_fresh x_made x_limit x_mode x_counted x_held x_first x_squares x_spanned x_span x_found x_any v1 v2 = some out) : Mt yM_visit cM_visit 4 none rm_M_visit κ [.ref (κ.1 0), .int v1, .long v2] (LM κ (x_many, x_generator, x_known, x_without, x_rows, x_row, x_pivot, x_fresh, x_multiple, x_last, x_made, x_settled, x_point, x_limit, x_mode, x_counted, x_listed, x_held, x_first, x_squares, x_wanted, x_spanned, x_span, x_minima, x_measured, x_found, x_any) X) none (LM κ (x_many, x_generator, x_known, x_without, x_rows, x_row, x_pivot, out.1, x_multiple, x_last, x_made, x_settled, x_point, out.2.1, x_mode, out.2.2.1, x_listed, out.2.2.2.1, out.2.2.2.2.1, out.2.2.2.2.2.1, x_wanted, out.2.2.2.2.2.2.1, out.2.2.2.2.2.2.2.1, x_minima, x_measured, out.2.2.2.2.2.2.2.2.1, out.2.2.2.2.2.2.2.2.2) X) := by
  refine Mt.of (by decide) (Nat.le_of_ble_eq_true rfl) ?_
  intro g G Fh
  unfold M_visit at h
  show J g κ 4 0 [(0, .ref (κ.1 0)), (1, .int v1), (2, .long v2)] [] (LM κ (x_many, x_generator, x_known, x_without, x_rows, x_row, x_pivot, x_fresh, x_multiple, x_last, x_made, x_settled, x_point, x_limit, x_mode, x_counted, x_listed, x_held, x_first, x_squares, x_wanted, x_spanned, x_span, x_minima, x_measured, x_found, x_any) X)
  refine w_aload_n (pc := 0) (q := 0) G dM_visit_0 rfl rfl ?_
  refine w_get (pc := 1) (v := .int x_mode) (fs := fl_M κ (x_many, x_generator, x_known, x_without, x_rows, x_row, x_pivot, x_fresh, x_multiple, x_last, x_made, x_settled, x_point, x_limit, x_mode, x_counted, x_listed, x_held, x_first, x_squares, x_wanted, x_spanned, x_span, x_minima, x_measured, x_found, x_any)) G 0 (by decide) lb_M rfl wsM_ok 14 (by decide) wd504 gf_M_14 dM_visit_1 ?_
  by_cases c4_0 : x_mode = (0 : Int32)
  · have h := if_t c4_0 h
    refine w_tsIn (pc := 4) (tgt := 32) G dM_visit_4 (by rw [c4_0]; decide) (by rw [c4_0]; decide) (by rw [c4_0]; rfl) (by decide) ?_
    refine w_aload_n (pc := 32) (q := 0) G dM_visit_32 rfl rfl ?_
    refine w_dup (pc := 33) G dM_visit_33 rfl ?_
    refine w_get (pc := 34) (v := .int x_counted) (fs := fl_M κ (x_many, x_generator, x_known, x_without, x_rows, x_row, x_pivot, x_fresh, x_multiple, x_last, x_made, x_settled, x_point, x_limit, x_mode, x_counted, x_listed, x_held, x_first, x_squares, x_wanted, x_spanned, x_span, x_minima, x_measured, x_found, x_any)) G 0 (by decide) lb_M rfl wsM_ok 15 (by decide) wd505 gf_M_15 dM_visit_34 ?_
    refine w_iconst (pc := 37) (v := (1 : Int32)) G dM_visit_37 (by decide) ?_
    refine w_iadd (pc := 38) G dM_visit_38 ?_
    refine w_put (pc := 39) (fs := fl_M κ (x_many, x_generator, x_known, x_without, x_rows, x_row, x_pivot, x_fresh, x_multiple, x_last, x_made, x_settled, x_point, x_limit, x_mode, x_counted, x_listed, x_held, x_first, x_squares, x_wanted, x_spanned, x_span, x_minima, x_measured, x_found, x_any)) (L1 := (LM κ (x_many, x_generator, x_known, x_without, x_rows, x_row, x_pivot, x_fresh, x_multiple, x_last, x_made, x_settled, x_point, x_limit, x_mode, (x_counted + (1 : Int32)), x_listed, x_held, x_first, x_squares, x_wanted, x_spanned, x_span, x_minima, x_measured, x_found, x_any) X)) G 0 (by decide) lb_M rfl wsM_ok tyM tyM_ok nmM 15 (by decide) wd505 rfl rfl rfl (Nat.le_of_ble_eq_true rfl) dM_visit_39 upf_counted ?_
    refine w_goto (pc := 42) (tgt := 68) G dM_visit_42 (by decide) ?_
    obtain rfl := Option.some.inj h
    exact w_vret (pc := 68) G dM_visit_68 Fh
  have h := if_f c4_0 h
  by_cases c4_1 : x_mode = (1 : Int32)
  · have h := if_t c4_1 h
    refine w_tsIn (pc := 4) (tgt := 45) G dM_visit_4 (by rw [c4_1]; decide) (by rw [c4_1]; decide) (by rw [c4_1]; rfl) (by decide) ?_
    refine w_aload_n (pc := 45) (q := 0) G dM_visit_45 rfl rfl ?_
    refine w_iload_n (pc := 46) (q := 1) G dM_visit_46 rfl rfl ?_
    refine w_lload_n (pc := 47) (q := 2) G dM_visit_47 rfl rfl ?_
    obtain ⟨r48, e48, h⟩ := bd h
    refine w_callV (pc := 48) (av := [.int v1, .long v2]) (rest := []) (v := none) (L' := (LM κ (x_many, x_generator, x_known, x_without, x_rows, x_row, x_pivot, x_fresh, x_multiple, x_last, x_made, x_settled, x_point, x_limit, x_mode, x_counted, x_listed, r48.1, r48.2.1, r48.2.2, x_wanted, x_spanned, x_span, x_minima, x_measured, x_found, x_any) X)) (T := TM) (fs := fl_M κ (x_many, x_generator, x_known, x_without, x_rows, x_row, x_pivot, x_fresh, x_multiple, x_last, x_made, x_settled, x_point, x_limit, x_mode, x_counted, x_listed, x_held, x_first, x_squares, x_wanted, x_spanned, x_span, x_minima, x_measured, x_found, x_any)) G 0 0 27 (by decide) lb_M rfl cb_M_sortIn_M_visit wd684 ws35 wd682 (met_M_sortIn κ X F v1 v2  e48) rfl rfl rfl (Nat.le_of_ble_eq_true rfl) dM_visit_48 ?_
    refine w_goto (pc := 51) (tgt := 68) G dM_visit_51 (by decide) ?_
    obtain rfl := Option.some.inj h
    exact w_vret (pc := 68) G dM_visit_68 Fh
  have h := if_f c4_1 h
  by_cases c4_2 : x_mode = (2 : Int32)
  · have h := if_t c4_2 h
    refine w_tsIn (pc := 4) (tgt := 54) G dM_visit_4 (by rw [c4_2]; decide) (by rw [c4_2]; decide) (by rw [c4_2]; rfl) (by decide) ?_
    refine w_aload_n (pc := 54) (q := 0) G dM_visit_54 rfl rfl ?_
    refine w_iload_n (pc := 55) (q := 1) G dM_visit_55 rfl rfl ?_
    obtain ⟨r56, e56, h⟩ := bd h
    refine w_callV (pc := 56) (av := [.int v1]) (rest := []) (v := none) (L' := (LM κ (x_many, x_generator, x_known, x_without, x_rows, x_row, x_pivot, r56.1, x_multiple, x_last, x_made, x_settled, x_point, x_limit, x_mode, x_counted, x_listed, x_held, x_first, x_squares, x_wanted, r56.2.1, r56.2.2, x_minima, x_measured, x_found, x_any) X)) (T := TM) (fs := fl_M κ (x_many, x_generator, x_known, x_without, x_rows, x_row, x_pivot, x_fresh, x_multiple, x_last, x_made, x_settled, x_point, x_limit, x_mode, x_counted, x_listed, x_held, x_first, x_squares, x_wanted, x_spanned, x_span, x_minima, x_measured, x_found, x_any)) G 0 0 27 (by decide) lb_M rfl cb_M_extend_M_visit wd692 ws37 wd690 (met_M_extend κ X F v1  e56) rfl rfl rfl (Nat.le_of_ble_eq_true rfl) dM_visit_56 ?_
    refine w_goto (pc := 59) (tgt := 68) G dM_visit_59 (by decide) ?_
    obtain rfl := Option.some.inj h
    exact w_vret (pc := 68) G dM_visit_68 Fh
  have h := if_f c4_2 h
  refine w_tsOut (pc := 4) (tgt := 62) G dM_visit_4 (tsout _ 2 (by decide) (fun k hk => match k, hk with | 0, _ => c4_0 | 1, _ => c4_1 | 2, _ => c4_2 | k + 3, q => absurd q (by omega))) (by decide) ?_
  refine w_aload_n (pc := 62) (q := 0) G dM_visit_62 rfl rfl ?_
  refine w_iload_n (pc := 63) (q := 1) G dM_visit_63 rfl rfl ?_
  refine w_lload_n (pc := 64) (q := 2) G dM_visit_64 rfl rfl ?_
  obtain ⟨r65, e65, h⟩ := bd h
  refine w_callV (pc := 65) (av := [.int v1, .long v2]) (rest := []) (v := none) (L' := (LM κ (x_many, x_generator, x_known, x_without, x_rows, x_row, x_pivot, x_fresh, x_multiple, x_last, x_made, x_settled, x_point, r65.1, x_mode, x_counted, x_listed, x_held, x_first, x_squares, x_wanted, x_spanned, x_span, x_minima, x_measured, r65.2.1, r65.2.2) X)) (T := TM) (fs := fl_M κ (x_many, x_generator, x_known, x_without, x_rows, x_row, x_pivot, x_fresh, x_multiple, x_last, x_made, x_settled, x_point, x_limit, x_mode, x_counted, x_listed, x_held, x_first, x_squares, x_wanted, x_spanned, x_span, x_minima, x_measured, x_found, x_any)) G 0 0 27 (by decide) lb_M rfl cb_M_compare_M_visit wd704 ws40 wd702 (met_M_compare κ X F v1 v2  e65) rfl rfl rfl (Nat.le_of_ble_eq_true rfl) dM_visit_65 ?_
  obtain rfl := Option.some.inj h
  exact w_vret (pc := 68) G dM_visit_68 Fh
def rm_M_take : Room := { frames := 1, cells := 0, slots := 0, locals := 21 }
theorem dM_take_0 : decode cM_take 0 = .ok (.aload_n 0, 1) := by decide +kernel
theorem dM_take_1 : decode cM_take 1 = .ok (.getfield 32, 3) := by decide +kernel
theorem dM_take_4 : decode cM_take 4 = .ok (.iload_n 1, 1) := by decide +kernel
theorem dM_take_5 : decode cM_take 5 = .ok (.laload, 1) := by decide +kernel
theorem dM_take_6 : decode cM_take 6 = .ok (.lstore_n 2, 1) := by decide +kernel
theorem dM_take_7 : decode cM_take 7 = .ok (.iconst 0, 1) := by decide +kernel
theorem dM_take_8 : decode cM_take 8 = .ok (.istore 4, 2) := by decide +kernel
theorem dM_take_10 : decode cM_take 10 = .ok (.iload 4, 2) := by decide +kernel
theorem dM_take_12 : decode cM_take 12 = .ok (.iconst 4, 1) := by decide +kernel
theorem dM_take_13 : decode cM_take 13 = .ok (.if_icmp .ge 110, 3) := by decide +kernel
theorem dM_take_16 : decode cM_take 16 = .ok (.aload_n 0, 1) := by decide +kernel
theorem dM_take_17 : decode cM_take 17 = .ok (.getfield 29, 3) := by decide +kernel
theorem dM_take_20 : decode cM_take 20 = .ok (.iconst 4, 1) := by decide +kernel
theorem dM_take_21 : decode cM_take 21 = .ok (.iload_n 1, 1) := by decide +kernel
theorem dM_take_22 : decode cM_take 22 = .ok (.imul, 1) := by decide +kernel
theorem dM_take_23 : decode cM_take 23 = .ok (.iconst 4, 1) := by decide +kernel
theorem dM_take_24 : decode cM_take 24 = .ok (.iadd, 1) := by decide +kernel
theorem dM_take_25 : decode cM_take 25 = .ok (.iload 4, 2) := by decide +kernel
theorem dM_take_27 : decode cM_take 27 = .ok (.iadd, 1) := by decide +kernel
theorem dM_take_28 : decode cM_take 28 = .ok (.aload_n 0, 1) := by decide +kernel
theorem dM_take_29 : decode cM_take 29 = .ok (.getfield 29, 3) := by decide +kernel
theorem dM_take_32 : decode cM_take 32 = .ok (.iconst 4, 1) := by decide +kernel
theorem dM_take_33 : decode cM_take 33 = .ok (.iload_n 1, 1) := by decide +kernel
theorem dM_take_34 : decode cM_take 34 = .ok (.imul, 1) := by decide +kernel
theorem dM_take_35 : decode cM_take 35 = .ok (.iload 4, 2) := by decide +kernel
theorem dM_take_37 : decode cM_take 37 = .ok (.iadd, 1) := by decide +kernel
theorem dM_take_38 : decode cM_take 38 = .ok (.laload, 1) := by decide +kernel
theorem dM_take_39 : decode cM_take 39 = .ok (.aload_n 0, 1) := by decide +kernel
theorem dM_take_40 : decode cM_take 40 = .ok (.getfield 23, 3) := by decide +kernel
theorem dM_take_43 : decode cM_take 43 = .ok (.iload_n 1, 1) := by decide +kernel
theorem dM_take_44 : decode cM_take 44 = .ok (.laload, 1) := by decide +kernel
theorem dM_take_45 : decode cM_take 45 = .ok (.aload_n 0, 1) := by decide +kernel
theorem dM_take_46 : decode cM_take 46 = .ok (.getfield 13, 3) := by decide +kernel
theorem dM_take_49 : decode cM_take 49 = .ok (.iconst 4, 1) := by decide +kernel
theorem dM_take_50 : decode cM_take 50 = .ok (.iload_n 1, 1) := by decide +kernel
theorem dM_take_51 : decode cM_take 51 = .ok (.imul, 1) := by decide +kernel
theorem dM_take_52 : decode cM_take 52 = .ok (.iload 4, 2) := by decide +kernel
theorem dM_take_54 : decode cM_take 54 = .ok (.iadd, 1) := by decide +kernel
theorem dM_take_55 : decode cM_take 55 = .ok (.laload, 1) := by decide +kernel
theorem dM_take_56 : decode cM_take 56 = .ok (.lmul, 1) := by decide +kernel
theorem dM_take_57 : decode cM_take 57 = .ok (.ladd, 1) := by decide +kernel
theorem dM_take_58 : decode cM_take 58 = .ok (.lastore, 1) := by decide +kernel
theorem dM_take_59 : decode cM_take 59 = .ok (.aload_n 0, 1) := by decide +kernel
theorem dM_take_60 : decode cM_take 60 = .ok (.getfield 29, 3) := by decide +kernel
theorem dM_take_63 : decode cM_take 63 = .ok (.iconst 4, 1) := by decide +kernel
theorem dM_take_64 : decode cM_take 64 = .ok (.iload_n 1, 1) := by decide +kernel
theorem dM_take_65 : decode cM_take 65 = .ok (.imul, 1) := by decide +kernel
theorem dM_take_66 : decode cM_take 66 = .ok (.iconst 4, 1) := by decide +kernel
theorem dM_take_67 : decode cM_take 67 = .ok (.iadd, 1) := by decide +kernel
theorem dM_take_68 : decode cM_take 68 = .ok (.iload 4, 2) := by decide +kernel
theorem dM_take_70 : decode cM_take 70 = .ok (.iadd, 1) := by decide +kernel
theorem dM_take_71 : decode cM_take 71 = .ok (.laload, 1) := by decide +kernel
theorem dM_take_72 : decode cM_take 72 = .ok (.aload_n 0, 1) := by decide +kernel
theorem dM_take_73 : decode cM_take 73 = .ok (.getfield 35, 3) := by decide +kernel
theorem dM_take_76 : decode cM_take 76 = .ok (.iload 4, 2) := by decide +kernel
theorem dM_take_78 : decode cM_take 78 = .ok (.laload, 1) := by decide +kernel
theorem dM_take_79 : decode cM_take 79 = .ok (.lsub, 1) := by decide +kernel
theorem dM_take_80 : decode cM_take 80 = .ok (.lstore 5, 2) := by decide +kernel
theorem dM_take_82 : decode cM_take 82 = .ok (.iload 4, 2) := by decide +kernel
theorem dM_take_84 : decode cM_take 84 = .ok (.aload_n 0, 1) := by decide +kernel
theorem dM_take_85 : decode cM_take 85 = .ok (.getfield 17, 3) := by decide +kernel
theorem dM_take_88 : decode cM_take 88 = .ok (.iload_n 1, 1) := by decide +kernel
theorem dM_take_89 : decode cM_take 89 = .ok (.iaload, 1) := by decide +kernel
theorem dM_take_90 : decode cM_take 90 = .ok (.if_icmp .lt 25, 3) := by decide +kernel
theorem dM_take_93 : decode cM_take 93 = .ok (.iload 4, 2) := by decide +kernel
theorem dM_take_95 : decode cM_take 95 = .ok (.aload_n 0, 1) := by decide +kernel
theorem dM_take_96 : decode cM_take 96 = .ok (.iload_n 1, 1) := by decide +kernel
theorem dM_take_97 : decode cM_take 97 = .ok (.iconst 1, 1) := by decide +kernel
theorem dM_take_98 : decode cM_take 98 = .ok (.iadd, 1) := by decide +kernel
theorem dM_take_99 : decode cM_take 99 = .ok (.invokevirtual 140, 3) := by decide +kernel
theorem dM_take_102 : decode cM_take 102 = .ok (.if_icmp .ge 13, 3) := by decide +kernel
theorem dM_take_105 : decode cM_take 105 = .ok (.lload_n 2, 1) := by decide +kernel
theorem dM_take_106 : decode cM_take 106 = .ok (.lload 5, 2) := by decide +kernel
theorem dM_take_108 : decode cM_take 108 = .ok (.lload 5, 2) := by decide +kernel
theorem dM_take_110 : decode cM_take 110 = .ok (.lmul, 1) := by decide +kernel
theorem dM_take_111 : decode cM_take 111 = .ok (.ladd, 1) := by decide +kernel
theorem dM_take_112 : decode cM_take 112 = .ok (.goto 4, 3) := by decide +kernel
theorem dM_take_115 : decode cM_take 115 = .ok (.lload_n 2, 1) := by decide +kernel
theorem dM_take_116 : decode cM_take 116 = .ok (.lstore_n 2, 1) := by decide +kernel
theorem dM_take_117 : decode cM_take 117 = .ok (.iinc 4 1, 3) := by decide +kernel
theorem dM_take_120 : decode cM_take 120 = .ok (.goto (-110), 3) := by decide +kernel
theorem dM_take_123 : decode cM_take 123 = .ok (.aload_n 0, 1) := by decide +kernel
theorem dM_take_124 : decode cM_take 124 = .ok (.getfield 32, 3) := by decide +kernel
theorem dM_take_127 : decode cM_take 127 = .ok (.iload_n 1, 1) := by decide +kernel
theorem dM_take_128 : decode cM_take 128 = .ok (.iconst 1, 1) := by decide +kernel
theorem dM_take_129 : decode cM_take 129 = .ok (.iadd, 1) := by decide +kernel
theorem dM_take_130 : decode cM_take 130 = .ok (.lload_n 2, 1) := by decide +kernel
theorem dM_take_131 : decode cM_take 131 = .ok (.lastore, 1) := by decide +kernel
theorem dM_take_132 : decode cM_take 132 = .ok (.return_, 1) := by decide +kernel
theorem cb_M_open_M_take : CB yM_open cM_open 2 (some .int) rm_M_open rm_M_take 1 := ⟨wd677, wd8, by decide +kernel, rfl, rfl, by decide⟩
noncomputable def lM_take_10 (F : Nat) (x_rows : Int32) (x_row : Nat → Int64) (x_pivot : Nat → Int32) (x_multiple : Nat → Int64) (x_point : Nat → Int64) (v1 : Int32) : Nat → Int64 → Int32 → (Nat → Int64) → Option (Int64 × (Nat → Int64))
  | 0, _, _, _ => none
  | n + 1, v2, v4, x_made => if (4 : Int32) ≤ v4 then some (v2, x_made) else gd (vp_in (((4 : Int32) * v1) + v4) 20) (gd (vp_in v1 4) (gd (vp_in (((4 : Int32) * v1) + v4) 16) (gd (vp_in ((((4 : Int32) * v1) + (4 : Int32)) + v4) 20) (gd (vp_in ((((4 : Int32) * v1) + (4 : Int32)) + v4) 20) (gd (vp_in v4 4) (gd (vp_in v1 5) (if v4 < (x_pivot v1.toNatClampNeg) then lM_take_10 F x_rows x_row x_pivot x_multiple x_point v1 n v2 (v4 + 1) (vp_updL x_made ((((4 : Int32) * v1) + (4 : Int32)) + v4).toNatClampNeg ((x_made (((4 : Int32) * v1) + v4).toNatClampNeg) + ((x_multiple v1.toNatClampNeg) * (x_row (((4 : Int32) * v1) + v4).toNatClampNeg)))) else (M_open F x_rows x_pivot (v1 + (1 : Int32))).bind (fun r99 => if r99 ≤ v4 then lM_take_10 F x_rows x_row x_pivot x_multiple x_point v1 n v2 (v4 + 1) (vp_updL x_made ((((4 : Int32) * v1) + (4 : Int32)) + v4).toNatClampNeg ((x_made (((4 : Int32) * v1) + v4).toNatClampNeg) + ((x_multiple v1.toNatClampNeg) * (x_row (((4 : Int32) * v1) + v4).toNatClampNeg)))) else lM_take_10 F x_rows x_row x_pivot x_multiple x_point v1 n (v2 + ((((vp_updL x_made ((((4 : Int32) * v1) + (4 : Int32)) + v4).toNatClampNeg ((x_made (((4 : Int32) * v1) + v4).toNatClampNeg) + ((x_multiple v1.toNatClampNeg) * (x_row (((4 : Int32) * v1) + v4).toNatClampNeg)))) ((((4 : Int32) * v1) + (4 : Int32)) + v4).toNatClampNeg) - (x_point v4.toNatClampNeg)) * (((vp_updL x_made ((((4 : Int32) * v1) + (4 : Int32)) + v4).toNatClampNeg ((x_made (((4 : Int32) * v1) + v4).toNatClampNeg) + ((x_multiple v1.toNatClampNeg) * (x_row (((4 : Int32) * v1) + v4).toNatClampNeg)))) ((((4 : Int32) * v1) + (4 : Int32)) + v4).toNatClampNeg) - (x_point v4.toNatClampNeg)))) (v4 + 1) (vp_updL x_made ((((4 : Int32) * v1) + (4 : Int32)) + v4).toNatClampNeg ((x_made (((4 : Int32) * v1) + v4).toNatClampNeg) + ((x_multiple v1.toNatClampNeg) * (x_row (((4 : Int32) * v1) + v4).toNatClampNeg))))))))))))
set_option maxHeartbeats 8000000 in
set_option maxRecDepth 100000 in
theorem lM_take_10_ok {g : Gm} {κ : ctx} (G : OK g κ RM cM_take 7 none rm_M_take) (X : Nat → va_E) (F : Nat) {x_many : Int32} {x_generator : Nat → Int32} {x_known : Int32} {x_without : Int32} {x_rows : Int32} {x_row : Nat → Int64} {x_pivot : Nat → Int32} {x_fresh : Nat → Int64} {x_multiple : Nat → Int64} {x_last : Nat → Int64} {x_settled : Nat → Int64} {x_point : Nat → Int64} {x_limit : Int64} {x_mode : Int32} {x_counted : Int32} {x_listed : Int32} {x_held : Int32} {x_first : Nat → Int64} {x_squares : Nat → Int64} {x_wanted : Int32} {x_spanned : Int32} {x_span : Nat → Int64} {x_minima : Nat → Int32} {x_measured : Int32} {x_found : Nat → Int64} {x_any : Int32} (v1 : Int32) : ∀ (n : Nat) (v2 : Int64) (v4 : Int32) (x_made : Nat → Int64) (out : Int64 × (Nat → Int64)), lM_take_10 F x_rows x_row x_pivot x_multiple x_point v1 n v2 v4 x_made = some out → (J g κ 7 123 [(0, .ref (κ.1 0)), (1, .int v1), (2, .long out.1)] [] (LM κ (x_many, x_generator, x_known, x_without, x_rows, x_row, x_pivot, x_fresh, x_multiple, x_last, out.2, x_settled, x_point, x_limit, x_mode, x_counted, x_listed, x_held, x_first, x_squares, x_wanted, x_spanned, x_span, x_minima, x_measured, x_found, x_any) X)) → J g κ 7 10 [(0, .ref (κ.1 0)), (1, .int v1), (2, .long v2), (4, .int v4)] [] (LM κ (x_many, x_generator, x_known, x_without, x_rows, x_row, x_pivot, x_fresh, x_multiple, x_last, x_made, x_settled, x_point, x_limit, x_mode, x_counted, x_listed, x_held, x_first, x_squares, x_wanted, x_spanned, x_span, x_minima, x_measured, x_found, x_any) X) := by
  intro n
  induction n with
  | zero =>
    intro v2 v4 x_made
    intro out h
    rw [lM_take_10] at h
    cases h
  | succ n ih =>
    intro v2 v4 x_made out h K
    rw [lM_take_10] at h
    refine w_iload (pc := 10) (q := 3) G dM_take_10 rfl ?_
    refine w_iconst (pc := 12) (v := (4 : Int32)) G dM_take_12 (by decide) ?_
    refine w_icmp_ge (pc := 13) (tgt := 123) G dM_take_13 (by decide) (fun c13 => ?_) (fun c13 => ?_)
    · have h := if_t c13 h
      obtain rfl := Option.some.inj h
      refine w_sub (lv' := [(0, .ref (κ.1 0)), (1, .int v1), (2, .long v2)]) [0, 1, 2] rfl ?_
      exact K
    · have h := if_f c13 h
      refine w_aload_n (pc := 16) (q := 0) G dM_take_16 rfl rfl ?_
      refine w_get (pc := 17) (v := .ref (κ.1 7)) (fs := fl_M κ (x_many, x_generator, x_known, x_without, x_rows, x_row, x_pivot, x_fresh, x_multiple, x_last, x_made, x_settled, x_point, x_limit, x_mode, x_counted, x_listed, x_held, x_first, x_squares, x_wanted, x_spanned, x_span, x_minima, x_measured, x_found, x_any)) G 0 (by decide) lb_M rfl wsM_ok 10 (by decide) wd500 gf_M_10 dM_take_17 ?_
      refine w_iconst (pc := 20) (v := (4 : Int32)) G dM_take_20 (by decide) ?_
      refine w_iload_n (pc := 21) (q := 1) G dM_take_21 rfl rfl ?_
      refine w_imul (pc := 22) G dM_take_22 ?_
      refine w_iconst (pc := 23) (v := (4 : Int32)) G dM_take_23 (by decide) ?_
      refine w_iadd (pc := 24) G dM_take_24 ?_
      refine w_iload (pc := 25) (q := 3) G dM_take_25 rfl ?_
      refine w_iadd (pc := 27) G dM_take_27 ?_
      refine w_aload_n (pc := 28) (q := 0) G dM_take_28 rfl rfl ?_
      refine w_get (pc := 29) (v := .ref (κ.1 7)) (fs := fl_M κ (x_many, x_generator, x_known, x_without, x_rows, x_row, x_pivot, x_fresh, x_multiple, x_last, x_made, x_settled, x_point, x_limit, x_mode, x_counted, x_listed, x_held, x_first, x_squares, x_wanted, x_spanned, x_span, x_minima, x_measured, x_found, x_any)) G 0 (by decide) lb_M rfl wsM_ok 10 (by decide) wd500 gf_M_10 dM_take_29 ?_
      refine w_iconst (pc := 32) (v := (4 : Int32)) G dM_take_32 (by decide) ?_
      refine w_iload_n (pc := 33) (q := 1) G dM_take_33 rfl rfl ?_
      refine w_imul (pc := 34) G dM_take_34 ?_
      refine w_iload (pc := 35) (q := 3) G dM_take_35 rfl ?_
      refine w_iadd (pc := 37) G dM_take_37 ?_
      obtain ⟨i38, h⟩ := gd_some h
      refine w_lald (pc := 38) (n := 20) (f := x_made) G 7 (by decide) lk_made i38 dM_take_38 ?_
      refine w_aload_n (pc := 39) (q := 0) G dM_take_39 rfl rfl ?_
      refine w_get (pc := 40) (v := .ref (κ.1 5)) (fs := fl_M κ (x_many, x_generator, x_known, x_without, x_rows, x_row, x_pivot, x_fresh, x_multiple, x_last, x_made, x_settled, x_point, x_limit, x_mode, x_counted, x_listed, x_held, x_first, x_squares, x_wanted, x_spanned, x_span, x_minima, x_measured, x_found, x_any)) G 0 (by decide) lb_M rfl wsM_ok 8 (by decide) wd498 gf_M_8 dM_take_40 ?_
      refine w_iload_n (pc := 43) (q := 1) G dM_take_43 rfl rfl ?_
      obtain ⟨i44, h⟩ := gd_some h
      refine w_lald (pc := 44) (n := 4) (f := x_multiple) G 5 (by decide) lk_multiple i44 dM_take_44 ?_
      refine w_aload_n (pc := 45) (q := 0) G dM_take_45 rfl rfl ?_
      refine w_get (pc := 46) (v := .ref (κ.1 2)) (fs := fl_M κ (x_many, x_generator, x_known, x_without, x_rows, x_row, x_pivot, x_fresh, x_multiple, x_last, x_made, x_settled, x_point, x_limit, x_mode, x_counted, x_listed, x_held, x_first, x_squares, x_wanted, x_spanned, x_span, x_minima, x_measured, x_found, x_any)) G 0 (by decide) lb_M rfl wsM_ok 5 (by decide) wd495 gf_M_5 dM_take_46 ?_
      refine w_iconst (pc := 49) (v := (4 : Int32)) G dM_take_49 (by decide) ?_
      refine w_iload_n (pc := 50) (q := 1) G dM_take_50 rfl rfl ?_
      refine w_imul (pc := 51) G dM_take_51 ?_
      refine w_iload (pc := 52) (q := 3) G dM_take_52 rfl ?_
      refine w_iadd (pc := 54) G dM_take_54 ?_
      obtain ⟨i55, h⟩ := gd_some h
      refine w_lald (pc := 55) (n := 16) (f := x_row) G 2 (by decide) lk_row i55 dM_take_55 ?_
      refine w_lmul (pc := 56) G dM_take_56 ?_
      refine w_ladd (pc := 57) G dM_take_57 ?_
      obtain ⟨i58, h⟩ := gd_some h
      refine w_last (pc := 58) (n := 20) (f := x_made) (L1 := (LM κ (x_many, x_generator, x_known, x_without, x_rows, x_row, x_pivot, x_fresh, x_multiple, x_last, vp_updL x_made ((((4 : Int32) * v1) + (4 : Int32)) + v4).toNatClampNeg ((x_made (((4 : Int32) * v1) + v4).toNatClampNeg) + ((x_multiple v1.toNatClampNeg) * (x_row (((4 : Int32) * v1) + v4).toNatClampNeg))), x_settled, x_point, x_limit, x_mode, x_counted, x_listed, x_held, x_first, x_squares, x_wanted, x_spanned, x_span, x_minima, x_measured, x_found, x_any) X)) G 7 (by decide) lk_made i58 dM_take_58 up_made ?_
      refine w_aload_n (pc := 59) (q := 0) G dM_take_59 rfl rfl ?_
      refine w_get (pc := 60) (v := .ref (κ.1 7)) (fs := fl_M κ (x_many, x_generator, x_known, x_without, x_rows, x_row, x_pivot, x_fresh, x_multiple, x_last, vp_updL x_made ((((4 : Int32) * v1) + (4 : Int32)) + v4).toNatClampNeg ((x_made (((4 : Int32) * v1) + v4).toNatClampNeg) + ((x_multiple v1.toNatClampNeg) * (x_row (((4 : Int32) * v1) + v4).toNatClampNeg))), x_settled, x_point, x_limit, x_mode, x_counted, x_listed, x_held, x_first, x_squares, x_wanted, x_spanned, x_span, x_minima, x_measured, x_found, x_any)) G 0 (by decide) lb_M rfl wsM_ok 10 (by decide) wd500 gf_M_10 dM_take_60 ?_
      refine w_iconst (pc := 63) (v := (4 : Int32)) G dM_take_63 (by decide) ?_
      refine w_iload_n (pc := 64) (q := 1) G dM_take_64 rfl rfl ?_
      refine w_imul (pc := 65) G dM_take_65 ?_
      refine w_iconst (pc := 66) (v := (4 : Int32)) G dM_take_66 (by decide) ?_
      refine w_iadd (pc := 67) G dM_take_67 ?_
      refine w_iload (pc := 68) (q := 3) G dM_take_68 rfl ?_
      refine w_iadd (pc := 70) G dM_take_70 ?_
      obtain ⟨i71, h⟩ := gd_some h
      refine w_lald (pc := 71) (n := 20) (f := vp_updL x_made ((((4 : Int32) * v1) + (4 : Int32)) + v4).toNatClampNeg ((x_made (((4 : Int32) * v1) + v4).toNatClampNeg) + ((x_multiple v1.toNatClampNeg) * (x_row (((4 : Int32) * v1) + v4).toNatClampNeg)))) G 7 (by decide) lk_made i71 dM_take_71 ?_
      refine w_aload_n (pc := 72) (q := 0) G dM_take_72 rfl rfl ?_
      refine w_get (pc := 73) (v := .ref (κ.1 9)) (fs := fl_M κ (x_many, x_generator, x_known, x_without, x_rows, x_row, x_pivot, x_fresh, x_multiple, x_last, vp_updL x_made ((((4 : Int32) * v1) + (4 : Int32)) + v4).toNatClampNeg ((x_made (((4 : Int32) * v1) + v4).toNatClampNeg) + ((x_multiple v1.toNatClampNeg) * (x_row (((4 : Int32) * v1) + v4).toNatClampNeg))), x_settled, x_point, x_limit, x_mode, x_counted, x_listed, x_held, x_first, x_squares, x_wanted, x_spanned, x_span, x_minima, x_measured, x_found, x_any)) G 0 (by decide) lb_M rfl wsM_ok 12 (by decide) wd502 gf_M_12 dM_take_73 ?_
      refine w_iload (pc := 76) (q := 3) G dM_take_76 rfl ?_
      obtain ⟨i78, h⟩ := gd_some h
      refine w_lald (pc := 78) (n := 4) (f := x_point) G 9 (by decide) lk_point i78 dM_take_78 ?_
      refine w_lsub (pc := 79) G dM_take_79 ?_
      refine w_lstore (pc := 80) (lv' := [(5, .long (((vp_updL x_made ((((4 : Int32) * v1) + (4 : Int32)) + v4).toNatClampNeg ((x_made (((4 : Int32) * v1) + v4).toNatClampNeg) + ((x_multiple v1.toNatClampNeg) * (x_row (((4 : Int32) * v1) + v4).toNatClampNeg)))) ((((4 : Int32) * v1) + (4 : Int32)) + v4).toNatClampNeg) - (x_point v4.toNatClampNeg))), (0, .ref (κ.1 0)), (1, .int v1), (2, .long v2), (4, .int v4)]) G dM_take_80 (by decide) rfl ?_
      refine w_iload (pc := 82) (q := 4) G dM_take_82 rfl ?_
      refine w_aload_n (pc := 84) (q := 1) G dM_take_84 rfl rfl ?_
      refine w_get (pc := 85) (v := .ref (κ.1 3)) (fs := fl_M κ (x_many, x_generator, x_known, x_without, x_rows, x_row, x_pivot, x_fresh, x_multiple, x_last, vp_updL x_made ((((4 : Int32) * v1) + (4 : Int32)) + v4).toNatClampNeg ((x_made (((4 : Int32) * v1) + v4).toNatClampNeg) + ((x_multiple v1.toNatClampNeg) * (x_row (((4 : Int32) * v1) + v4).toNatClampNeg))), x_settled, x_point, x_limit, x_mode, x_counted, x_listed, x_held, x_first, x_squares, x_wanted, x_spanned, x_span, x_minima, x_measured, x_found, x_any)) G 0 (by decide) lb_M rfl wsM_ok 6 (by decide) wd496 gf_M_6 dM_take_85 ?_
      refine w_iload_n (pc := 88) (q := 2) G dM_take_88 rfl rfl ?_
      obtain ⟨i89, h⟩ := gd_some h
      refine w_iald (pc := 89) (n := 5) (f := x_pivot) G 3 (by decide) lk_pivot i89 dM_take_89 ?_
      refine w_icmp_lt (pc := 90) (tgt := 115) G dM_take_90 (by decide) (fun c90 => ?_) (fun c90 => ?_)
      · have h := if_t c90 h
        refine w_lload_n (pc := 115) (q := 3) G dM_take_115 rfl rfl ?_
        refine w_lstore_n (pc := 116) (lv' := [(2, .long v2), (5, .long (((vp_updL x_made ((((4 : Int32) * v1) + (4 : Int32)) + v4).toNatClampNeg ((x_made (((4 : Int32) * v1) + v4).toNatClampNeg) + ((x_multiple v1.toNatClampNeg) * (x_row (((4 : Int32) * v1) + v4).toNatClampNeg)))) ((((4 : Int32) * v1) + (4 : Int32)) + v4).toNatClampNeg) - (x_point v4.toNatClampNeg))), (0, .ref (κ.1 0)), (1, .int v1), (4, .int v4)]) G dM_take_116 rfl (by decide) rfl ?_
        refine w_iinc (pc := 117) (q0 := 4) (v := (v4 + 1)) (lv' := [(4, .int (v4 + 1)), (2, .long v2), (5, .long (((vp_updL x_made ((((4 : Int32) * v1) + (4 : Int32)) + v4).toNatClampNeg ((x_made (((4 : Int32) * v1) + v4).toNatClampNeg) + ((x_multiple v1.toNatClampNeg) * (x_row (((4 : Int32) * v1) + v4).toNatClampNeg)))) ((((4 : Int32) * v1) + (4 : Int32)) + v4).toNatClampNeg) - (x_point v4.toNatClampNeg))), (0, .ref (κ.1 0)), (1, .int v1)]) G dM_take_117 rfl rfl (by decide) rfl ?_
        refine w_goto (pc := 120) (tgt := 10) G dM_take_120 (by decide) ?_
        refine w_sub (lv' := [(0, .ref (κ.1 0)), (1, .int v1), (2, .long v2), (4, .int (v4 + 1))]) [3, 4, 1, 0] rfl ?_
        exact ih v2 (v4 + 1) (vp_updL x_made ((((4 : Int32) * v1) + (4 : Int32)) + v4).toNatClampNeg ((x_made (((4 : Int32) * v1) + v4).toNatClampNeg) + ((x_multiple v1.toNatClampNeg) * (x_row (((4 : Int32) * v1) + v4).toNatClampNeg)))) out h K
      · have h := if_f c90 h
        refine w_iload (pc := 93) (q := 4) G dM_take_93 rfl ?_
        refine w_aload_n (pc := 95) (q := 1) G dM_take_95 rfl rfl ?_
        refine w_iload_n (pc := 96) (q := 2) G dM_take_96 rfl rfl ?_
        refine w_iconst (pc := 97) (v := (1 : Int32)) G dM_take_97 (by decide) ?_
        refine w_iadd (pc := 98) G dM_take_98 ?_
        obtain ⟨r99, e99, h⟩ := bd h
        refine w_callV (pc := 99) (av := [.int (v1 + (1 : Int32))]) (rest := [.int v4]) (v := some (.int r99)) (L' := (LM κ (x_many, x_generator, x_known, x_without, x_rows, x_row, x_pivot, x_fresh, x_multiple, x_last, vp_updL x_made ((((4 : Int32) * v1) + (4 : Int32)) + v4).toNatClampNeg ((x_made (((4 : Int32) * v1) + v4).toNatClampNeg) + ((x_multiple v1.toNatClampNeg) * (x_row (((4 : Int32) * v1) + v4).toNatClampNeg))), x_settled, x_point, x_limit, x_mode, x_counted, x_listed, x_held, x_first, x_squares, x_wanted, x_spanned, x_span, x_minima, x_measured, x_found, x_any) X)) (T := TM) (fs := fl_M κ (x_many, x_generator, x_known, x_without, x_rows, x_row, x_pivot, x_fresh, x_multiple, x_last, vp_updL x_made ((((4 : Int32) * v1) + (4 : Int32)) + v4).toNatClampNeg ((x_made (((4 : Int32) * v1) + v4).toNatClampNeg) + ((x_multiple v1.toNatClampNeg) * (x_row (((4 : Int32) * v1) + v4).toNatClampNeg))), x_settled, x_point, x_limit, x_mode, x_counted, x_listed, x_held, x_first, x_squares, x_wanted, x_spanned, x_span, x_minima, x_measured, x_found, x_any)) G 0 0 27 (by decide) lb_M rfl cb_M_open_M_take wd676 ws33 wd674 (met_M_open κ X F (v1 + (1 : Int32))  e99) rfl rfl rfl (Nat.le_of_ble_eq_true rfl) dM_take_99 ?_
        refine w_icmp_ge (pc := 102) (tgt := 115) G dM_take_102 (by decide) (fun c102 => ?_) (fun c102 => ?_)
        · have h := if_t c102 h
          refine w_lload_n (pc := 115) (q := 3) G dM_take_115 rfl rfl ?_
          refine w_lstore_n (pc := 116) (lv' := [(2, .long v2), (5, .long (((vp_updL x_made ((((4 : Int32) * v1) + (4 : Int32)) + v4).toNatClampNeg ((x_made (((4 : Int32) * v1) + v4).toNatClampNeg) + ((x_multiple v1.toNatClampNeg) * (x_row (((4 : Int32) * v1) + v4).toNatClampNeg)))) ((((4 : Int32) * v1) + (4 : Int32)) + v4).toNatClampNeg) - (x_point v4.toNatClampNeg))), (0, .ref (κ.1 0)), (1, .int v1), (4, .int v4)]) G dM_take_116 rfl (by decide) rfl ?_
          refine w_iinc (pc := 117) (q0 := 4) (v := (v4 + 1)) (lv' := [(4, .int (v4 + 1)), (2, .long v2), (5, .long (((vp_updL x_made ((((4 : Int32) * v1) + (4 : Int32)) + v4).toNatClampNeg ((x_made (((4 : Int32) * v1) + v4).toNatClampNeg) + ((x_multiple v1.toNatClampNeg) * (x_row (((4 : Int32) * v1) + v4).toNatClampNeg)))) ((((4 : Int32) * v1) + (4 : Int32)) + v4).toNatClampNeg) - (x_point v4.toNatClampNeg))), (0, .ref (κ.1 0)), (1, .int v1)]) G dM_take_117 rfl rfl (by decide) rfl ?_
          refine w_goto (pc := 120) (tgt := 10) G dM_take_120 (by decide) ?_
          refine w_sub (lv' := [(0, .ref (κ.1 0)), (1, .int v1), (2, .long v2), (4, .int (v4 + 1))]) [3, 4, 1, 0] rfl ?_
          exact ih v2 (v4 + 1) (vp_updL x_made ((((4 : Int32) * v1) + (4 : Int32)) + v4).toNatClampNeg ((x_made (((4 : Int32) * v1) + v4).toNatClampNeg) + ((x_multiple v1.toNatClampNeg) * (x_row (((4 : Int32) * v1) + v4).toNatClampNeg)))) out h K
        · have h := if_f c102 h
          refine w_lload_n (pc := 105) (q := 3) G dM_take_105 rfl rfl ?_
          refine w_lload (pc := 106) (q := 0) G dM_take_106 rfl ?_
          refine w_lload (pc := 108) (q := 0) G dM_take_108 rfl ?_
          refine w_lmul (pc := 110) G dM_take_110 ?_
          refine w_ladd (pc := 111) G dM_take_111 ?_
          refine w_goto (pc := 112) (tgt := 116) G dM_take_112 (by decide) ?_
          refine w_lstore_n (pc := 116) (lv' := [(2, .long (v2 + ((((vp_updL x_made ((((4 : Int32) * v1) + (4 : Int32)) + v4).toNatClampNeg ((x_made (((4 : Int32) * v1) + v4).toNatClampNeg) + ((x_multiple v1.toNatClampNeg) * (x_row (((4 : Int32) * v1) + v4).toNatClampNeg)))) ((((4 : Int32) * v1) + (4 : Int32)) + v4).toNatClampNeg) - (x_point v4.toNatClampNeg)) * (((vp_updL x_made ((((4 : Int32) * v1) + (4 : Int32)) + v4).toNatClampNeg ((x_made (((4 : Int32) * v1) + v4).toNatClampNeg) + ((x_multiple v1.toNatClampNeg) * (x_row (((4 : Int32) * v1) + v4).toNatClampNeg)))) ((((4 : Int32) * v1) + (4 : Int32)) + v4).toNatClampNeg) - (x_point v4.toNatClampNeg))))), (5, .long (((vp_updL x_made ((((4 : Int32) * v1) + (4 : Int32)) + v4).toNatClampNeg ((x_made (((4 : Int32) * v1) + v4).toNatClampNeg) + ((x_multiple v1.toNatClampNeg) * (x_row (((4 : Int32) * v1) + v4).toNatClampNeg)))) ((((4 : Int32) * v1) + (4 : Int32)) + v4).toNatClampNeg) - (x_point v4.toNatClampNeg))), (0, .ref (κ.1 0)), (1, .int v1), (4, .int v4)]) G dM_take_116 rfl (by decide) rfl ?_
          refine w_iinc (pc := 117) (q0 := 4) (v := (v4 + 1)) (lv' := [(4, .int (v4 + 1)), (2, .long (v2 + ((((vp_updL x_made ((((4 : Int32) * v1) + (4 : Int32)) + v4).toNatClampNeg ((x_made (((4 : Int32) * v1) + v4).toNatClampNeg) + ((x_multiple v1.toNatClampNeg) * (x_row (((4 : Int32) * v1) + v4).toNatClampNeg)))) ((((4 : Int32) * v1) + (4 : Int32)) + v4).toNatClampNeg) - (x_point v4.toNatClampNeg)) * (((vp_updL x_made ((((4 : Int32) * v1) + (4 : Int32)) + v4).toNatClampNeg ((x_made (((4 : Int32) * v1) + v4).toNatClampNeg) + ((x_multiple v1.toNatClampNeg) * (x_row (((4 : Int32) * v1) + v4).toNatClampNeg)))) ((((4 : Int32) * v1) + (4 : Int32)) + v4).toNatClampNeg) - (x_point v4.toNatClampNeg))))), (5, .long (((vp_updL x_made ((((4 : Int32) * v1) + (4 : Int32)) + v4).toNatClampNeg ((x_made (((4 : Int32) * v1) + v4).toNatClampNeg) + ((x_multiple v1.toNatClampNeg) * (x_row (((4 : Int32) * v1) + v4).toNatClampNeg)))) ((((4 : Int32) * v1) + (4 : Int32)) + v4).toNatClampNeg) - (x_point v4.toNatClampNeg))), (0, .ref (κ.1 0)), (1, .int v1)]) G dM_take_117 rfl rfl (by decide) rfl ?_
          refine w_goto (pc := 120) (tgt := 10) G dM_take_120 (by decide) ?_
          refine w_sub (lv' := [(0, .ref (κ.1 0)), (1, .int v1), (2, .long (v2 + ((((vp_updL x_made ((((4 : Int32) * v1) + (4 : Int32)) + v4).toNatClampNeg ((x_made (((4 : Int32) * v1) + v4).toNatClampNeg) + ((x_multiple v1.toNatClampNeg) * (x_row (((4 : Int32) * v1) + v4).toNatClampNeg)))) ((((4 : Int32) * v1) + (4 : Int32)) + v4).toNatClampNeg) - (x_point v4.toNatClampNeg)) * (((vp_updL x_made ((((4 : Int32) * v1) + (4 : Int32)) + v4).toNatClampNeg ((x_made (((4 : Int32) * v1) + v4).toNatClampNeg) + ((x_multiple v1.toNatClampNeg) * (x_row (((4 : Int32) * v1) + v4).toNatClampNeg)))) ((((4 : Int32) * v1) + (4 : Int32)) + v4).toNatClampNeg) - (x_point v4.toNatClampNeg))))), (4, .int (v4 + 1))]) [3, 4, 1, 0] rfl ?_
          exact ih (v2 + ((((vp_updL x_made ((((4 : Int32) * v1) + (4 : Int32)) + v4).toNatClampNeg ((x_made (((4 : Int32) * v1) + v4).toNatClampNeg) + ((x_multiple v1.toNatClampNeg) * (x_row (((4 : Int32) * v1) + v4).toNatClampNeg)))) ((((4 : Int32) * v1) + (4 : Int32)) + v4).toNatClampNeg) - (x_point v4.toNatClampNeg)) * (((vp_updL x_made ((((4 : Int32) * v1) + (4 : Int32)) + v4).toNatClampNeg ((x_made (((4 : Int32) * v1) + v4).toNatClampNeg) + ((x_multiple v1.toNatClampNeg) * (x_row (((4 : Int32) * v1) + v4).toNatClampNeg)))) ((((4 : Int32) * v1) + (4 : Int32)) + v4).toNatClampNeg) - (x_point v4.toNatClampNeg)))) (v4 + 1) (vp_updL x_made ((((4 : Int32) * v1) + (4 : Int32)) + v4).toNatClampNeg ((x_made (((4 : Int32) * v1) + v4).toNatClampNeg) + ((x_multiple v1.toNatClampNeg) * (x_row (((4 : Int32) * v1) + v4).toNatClampNeg)))) out h K
noncomputable def M_take (F : Nat) (x_rows : Int32) (x_row : Nat → Int64) (x_pivot : Nat → Int32) (x_multiple : Nat → Int64) (x_made : Nat → Int64) (x_settled : Nat → Int64) (x_point : Nat → Int64) (v1 : Int32) : Option ((Nat → Int64) × (Nat → Int64)) := gd (vp_in v1 5) ((lM_take_10 F x_rows x_row x_pivot x_multiple x_point v1 F (x_settled v1.toNatClampNeg) (0 : Int32) x_made).bind (fun o10_15 => gd (vp_in (v1 + (1 : Int32)) 5) (some (o10_15.2, vp_updL x_settled (v1 + (1 : Int32)).toNatClampNeg o10_15.1))))
set_option maxHeartbeats 8000000 in
set_option maxRecDepth 100000 in
theorem met_M_take (κ : ctx) (X : Nat → va_E) (F : Nat) {x_many : Int32} {x_generator : Nat → Int32} {x_known : Int32} {x_without : Int32} {x_rows : Int32} {x_row : Nat → Int64} {x_pivot : Nat → Int32} {x_fresh : Nat → Int64} {x_multiple : Nat → Int64} {x_last : Nat → Int64} {x_made : Nat → Int64} {x_settled : Nat → Int64} {x_point : Nat → Int64} {x_limit : Int64} {x_mode : Int32} {x_counted : Int32} {x_listed : Int32} {x_held : Int32} {x_first : Nat → Int64} {x_squares : Nat → Int64} {x_wanted : Int32} {x_spanned : Int32} {x_span : Nat → Int64} {x_minima : Nat → Int32} {x_measured : Int32} {x_found : Nat → Int64} {x_any : Int32} (v1 : Int32) {out : (Nat → Int64) × (Nat → Int64)} (h : M_take F x_rows x_row x_pivot x_multiple x_made x_settled x_point v1 = some out) : Mt yM_take cM_take 7 none rm_M_take κ [.ref (κ.1 0), .int v1] (LM κ (x_many, x_generator, x_known, x_without, x_rows, x_row, x_pivot, x_fresh, x_multiple, x_last, x_made, x_settled, x_point, x_limit, x_mode, x_counted, x_listed, x_held, x_first, x_squares, x_wanted, x_spanned, x_span, x_minima, x_measured, x_found, x_any) X) none (LM κ (x_many, x_generator, x_known, x_without, x_rows, x_row, x_pivot, x_fresh, x_multiple, x_last, out.1, out.2, x_point, x_limit, x_mode, x_counted, x_listed, x_held, x_first, x_squares, x_wanted, x_spanned, x_span, x_minima, x_measured, x_found, x_any) X) := by
  refine Mt.of (by decide) (Nat.le_of_ble_eq_true rfl) ?_
  intro g G Fh
  unfold M_take at h
  show J g κ 7 0 [(0, .ref (κ.1 0)), (1, .int v1)] [] (LM κ (x_many, x_generator, x_known, x_without, x_rows, x_row, x_pivot, x_fresh, x_multiple, x_last, x_made, x_settled, x_point, x_limit, x_mode, x_counted, x_listed, x_held, x_first, x_squares, x_wanted, x_spanned, x_span, x_minima, x_measured, x_found, x_any) X)
  refine w_aload_n (pc := 0) (q := 0) G dM_take_0 rfl rfl ?_
  refine w_get (pc := 1) (v := .ref (κ.1 8)) (fs := fl_M κ (x_many, x_generator, x_known, x_without, x_rows, x_row, x_pivot, x_fresh, x_multiple, x_last, x_made, x_settled, x_point, x_limit, x_mode, x_counted, x_listed, x_held, x_first, x_squares, x_wanted, x_spanned, x_span, x_minima, x_measured, x_found, x_any)) G 0 (by decide) lb_M rfl wsM_ok 11 (by decide) wd501 gf_M_11 dM_take_1 ?_
  refine w_iload_n (pc := 4) (q := 1) G dM_take_4 rfl rfl ?_
  obtain ⟨i5, h⟩ := gd_some h
  refine w_lald (pc := 5) (n := 5) (f := x_settled) G 8 (by decide) lk_settled i5 dM_take_5 ?_
  refine w_lstore_n (pc := 6) (lv' := [(2, .long (x_settled v1.toNatClampNeg)), (0, .ref (κ.1 0)), (1, .int v1)]) G dM_take_6 rfl (by decide) rfl ?_
  refine w_iconst (pc := 7) (v := (0 : Int32)) G dM_take_7 (by decide) ?_
  refine w_istore (pc := 8) (lv' := [(4, .int (0 : Int32)), (2, .long (x_settled v1.toNatClampNeg)), (0, .ref (κ.1 0)), (1, .int v1)]) G dM_take_8 (by decide) rfl ?_
  refine w_sub (lv' := [(0, .ref (κ.1 0)), (1, .int v1), (2, .long (x_settled v1.toNatClampNeg)), (4, .int (0 : Int32))]) [2, 3, 1, 0] rfl ?_
  obtain ⟨o10_15, eo10_15, h⟩ := bd h
  refine lM_take_10_ok G X F v1 F (x_settled v1.toNatClampNeg) (0 : Int32) x_made o10_15 eo10_15 ?_
  refine w_aload_n (pc := 123) (q := 0) G dM_take_123 rfl rfl ?_
  refine w_get (pc := 124) (v := .ref (κ.1 8)) (fs := fl_M κ (x_many, x_generator, x_known, x_without, x_rows, x_row, x_pivot, x_fresh, x_multiple, x_last, o10_15.2, x_settled, x_point, x_limit, x_mode, x_counted, x_listed, x_held, x_first, x_squares, x_wanted, x_spanned, x_span, x_minima, x_measured, x_found, x_any)) G 0 (by decide) lb_M rfl wsM_ok 11 (by decide) wd501 gf_M_11 dM_take_124 ?_
  refine w_iload_n (pc := 127) (q := 1) G dM_take_127 rfl rfl ?_
  refine w_iconst (pc := 128) (v := (1 : Int32)) G dM_take_128 (by decide) ?_
  refine w_iadd (pc := 129) G dM_take_129 ?_
  refine w_lload_n (pc := 130) (q := 2) G dM_take_130 rfl rfl ?_
  obtain ⟨i131, h⟩ := gd_some h
  refine w_last (pc := 131) (n := 5) (f := x_settled) (L1 := (LM κ (x_many, x_generator, x_known, x_without, x_rows, x_row, x_pivot, x_fresh, x_multiple, x_last, o10_15.2, vp_updL x_settled (v1 + (1 : Int32)).toNatClampNeg o10_15.1, x_point, x_limit, x_mode, x_counted, x_listed, x_held, x_first, x_squares, x_wanted, x_spanned, x_span, x_minima, x_measured, x_found, x_any) X)) G 8 (by decide) lk_settled i131 dM_take_131 up_settled ?_
  obtain rfl := Option.some.inj h
  exact w_vret (pc := 132) G dM_take_132 Fh
def rm_M_along : Room := { frames := 4, cells := 0, slots := 0, locals := 103 }
theorem dM_along_0 : decode cM_along 0 = .ok (.aload_n 0, 1) := by decide +kernel
theorem dM_along_1 : decode cM_along 1 = .ok (.getfield 23, 3) := by decide +kernel
theorem dM_along_4 : decode cM_along 4 = .ok (.iload_n 1, 1) := by decide +kernel
theorem dM_along_5 : decode cM_along 5 = .ok (.lload_n 2, 1) := by decide +kernel
theorem dM_along_6 : decode cM_along 6 = .ok (.lastore, 1) := by decide +kernel
theorem dM_along_7 : decode cM_along 7 = .ok (.aload_n 0, 1) := by decide +kernel
theorem dM_along_8 : decode cM_along 8 = .ok (.iload_n 1, 1) := by decide +kernel
theorem dM_along_9 : decode cM_along 9 = .ok (.invokevirtual 143, 3) := by decide +kernel
theorem dM_along_12 : decode cM_along 12 = .ok (.aload_n 0, 1) := by decide +kernel
theorem dM_along_13 : decode cM_along 13 = .ok (.getfield 32, 3) := by decide +kernel
theorem dM_along_16 : decode cM_along 16 = .ok (.iload_n 1, 1) := by decide +kernel
theorem dM_along_17 : decode cM_along 17 = .ok (.iconst 1, 1) := by decide +kernel
theorem dM_along_18 : decode cM_along 18 = .ok (.iadd, 1) := by decide +kernel
theorem dM_along_19 : decode cM_along 19 = .ok (.laload, 1) := by decide +kernel
theorem dM_along_20 : decode cM_along 20 = .ok (.aload_n 0, 1) := by decide +kernel
theorem dM_along_21 : decode cM_along 21 = .ok (.getfield 132, 3) := by decide +kernel
theorem dM_along_24 : decode cM_along 24 = .ok (.lcmp, 1) := by decide +kernel
theorem dM_along_25 : decode cM_along 25 = .ok (.ifCond .gt 58, 3) := by decide +kernel
theorem dM_along_28 : decode cM_along 28 = .ok (.aload_n 0, 1) := by decide +kernel
theorem dM_along_29 : decode cM_along 29 = .ok (.getfield 146, 3) := by decide +kernel
theorem dM_along_32 : decode cM_along 32 = .ok (.iconst 2, 1) := by decide +kernel
theorem dM_along_33 : decode cM_along 33 = .ok (.if_icmp .ne 14, 3) := by decide +kernel
theorem dM_along_36 : decode cM_along 36 = .ok (.aload_n 0, 1) := by decide +kernel
theorem dM_along_37 : decode cM_along 37 = .ok (.getfield 149, 3) := by decide +kernel
theorem dM_along_40 : decode cM_along 40 = .ok (.aload_n 0, 1) := by decide +kernel
theorem dM_along_41 : decode cM_along 41 = .ok (.getfield 152, 3) := by decide +kernel
theorem dM_along_44 : decode cM_along 44 = .ok (.if_icmp .eq 39, 3) := by decide +kernel
theorem dM_along_47 : decode cM_along 47 = .ok (.aload_n 0, 1) := by decide +kernel
theorem dM_along_48 : decode cM_along 48 = .ok (.iconst 4, 1) := by decide +kernel
theorem dM_along_49 : decode cM_along 49 = .ok (.iload_n 1, 1) := by decide +kernel
theorem dM_along_50 : decode cM_along 50 = .ok (.imul, 1) := by decide +kernel
theorem dM_along_51 : decode cM_along 51 = .ok (.iconst 4, 1) := by decide +kernel
theorem dM_along_52 : decode cM_along 52 = .ok (.iadd, 1) := by decide +kernel
theorem dM_along_53 : decode cM_along 53 = .ok (.aload_n 0, 1) := by decide +kernel
theorem dM_along_54 : decode cM_along 54 = .ok (.getfield 32, 3) := by decide +kernel
theorem dM_along_57 : decode cM_along 57 = .ok (.iload_n 1, 1) := by decide +kernel
theorem dM_along_58 : decode cM_along 58 = .ok (.iconst 1, 1) := by decide +kernel
theorem dM_along_59 : decode cM_along 59 = .ok (.iadd, 1) := by decide +kernel
theorem dM_along_60 : decode cM_along 60 = .ok (.laload, 1) := by decide +kernel
theorem dM_along_61 : decode cM_along 61 = .ok (.invokevirtual 155, 3) := by decide +kernel
theorem dM_along_64 : decode cM_along 64 = .ok (.aload_n 0, 1) := by decide +kernel
theorem dM_along_65 : decode cM_along 65 = .ok (.getfield 23, 3) := by decide +kernel
theorem dM_along_68 : decode cM_along 68 = .ok (.iload_n 1, 1) := by decide +kernel
theorem dM_along_69 : decode cM_along 69 = .ok (.dup2, 1) := by decide +kernel
theorem dM_along_70 : decode cM_along 70 = .ok (.laload, 1) := by decide +kernel
theorem dM_along_71 : decode cM_along 71 = .ok (.lload 4, 2) := by decide +kernel
theorem dM_along_73 : decode cM_along 73 = .ok (.ladd, 1) := by decide +kernel
theorem dM_along_74 : decode cM_along 74 = .ok (.lastore, 1) := by decide +kernel
theorem dM_along_75 : decode cM_along 75 = .ok (.aload_n 0, 1) := by decide +kernel
theorem dM_along_76 : decode cM_along 76 = .ok (.iload_n 1, 1) := by decide +kernel
theorem dM_along_77 : decode cM_along 77 = .ok (.invokevirtual 143, 3) := by decide +kernel
theorem dM_along_80 : decode cM_along 80 = .ok (.goto (-68), 3) := by decide +kernel
theorem dM_along_83 : decode cM_along 83 = .ok (.return_, 1) := by decide +kernel
theorem cb_M_take_M_along : CB yM_take cM_take 7 none rm_M_take rm_M_along 1 := ⟨wd718, wd8, by decide +kernel, rfl, rfl, by decide⟩
theorem cb_M_visit_M_along : CB yM_visit cM_visit 4 none rm_M_visit rm_M_along 2 := ⟨wd681, wd8, by decide +kernel, rfl, rfl, by decide⟩
noncomputable def lM_along_12 (F : Nat) (x_rows : Int32) (x_row : Nat → Int64) (x_pivot : Nat → Int32) (x_point : Nat → Int64) (x_mode : Int32) (x_wanted : Int32) (v1 : Int32) (v4 : Int64) : Nat → (Nat → Int64) → (Nat → Int64) → (Nat → Int64) → (Nat → Int64) → Int64 → Int32 → Int32 → (Nat → Int64) → (Nat → Int64) → Int32 → (Nat → Int64) → (Nat → Int64) → Int32 → Option ((Nat → Int64) × (Nat → Int64) × (Nat → Int64) × (Nat → Int64) × Int64 × Int32 × Int32 × (Nat → Int64) × (Nat → Int64) × Int32 × (Nat → Int64) × (Nat → Int64) × Int32)
  | 0, _, _, _, _, _, _, _, _, _, _, _, _, _ => none
  | n + 1, x_fresh, x_multiple, x_made, x_settled, x_limit, x_counted, x_held, x_first, x_squares, x_spanned, x_span, x_found, x_any => gd (vp_in (v1 + (1 : Int32)) 5) (if x_limit < (x_settled (v1 + (1 : Int32)).toNatClampNeg) then some (x_fresh, x_multiple, x_made, x_settled, x_limit, x_counted, x_held, x_first, x_squares, x_spanned, x_span, x_found, x_any) else if x_mode = (2 : Int32) then if x_spanned = x_wanted then some (x_fresh, x_multiple, x_made, x_settled, x_limit, x_counted, x_held, x_first, x_squares, x_spanned, x_span, x_found, x_any) else gd (vp_in (v1 + (1 : Int32)) 5) ((M_visit F x_fresh x_made x_limit x_mode x_counted x_held x_first x_squares x_spanned x_span x_found x_any (((4 : Int32) * v1) + (4 : Int32)) (x_settled (v1 + (1 : Int32)).toNatClampNeg)).bind (fun r61 => gd (vp_in v1 4) (gd (vp_in v1 4) ((M_take F x_rows x_row x_pivot (vp_updL x_multiple v1.toNatClampNeg ((x_multiple v1.toNatClampNeg) + v4)) x_made x_settled x_point v1).bind (fun r77 => lM_along_12 F x_rows x_row x_pivot x_point x_mode x_wanted v1 v4 n r61.1 (vp_updL x_multiple v1.toNatClampNeg ((x_multiple v1.toNatClampNeg) + v4)) r77.1 r77.2 r61.2.1 r61.2.2.1 r61.2.2.2.1 r61.2.2.2.2.1 r61.2.2.2.2.2.1 r61.2.2.2.2.2.2.1 r61.2.2.2.2.2.2.2.1 r61.2.2.2.2.2.2.2.2.1 r61.2.2.2.2.2.2.2.2.2))))) else gd (vp_in (v1 + (1 : Int32)) 5) ((M_visit F x_fresh x_made x_limit x_mode x_counted x_held x_first x_squares x_spanned x_span x_found x_any (((4 : Int32) * v1) + (4 : Int32)) (x_settled (v1 + (1 : Int32)).toNatClampNeg)).bind (fun r61 => gd (vp_in v1 4) (gd (vp_in v1 4) ((M_take F x_rows x_row x_pivot (vp_updL x_multiple v1.toNatClampNeg ((x_multiple v1.toNatClampNeg) + v4)) x_made x_settled x_point v1).bind (fun r77 => lM_along_12 F x_rows x_row x_pivot x_point x_mode x_wanted v1 v4 n r61.1 (vp_updL x_multiple v1.toNatClampNeg ((x_multiple v1.toNatClampNeg) + v4)) r77.1 r77.2 r61.2.1 r61.2.2.1 r61.2.2.2.1 r61.2.2.2.2.1 r61.2.2.2.2.2.1 r61.2.2.2.2.2.2.1 r61.2.2.2.2.2.2.2.1 r61.2.2.2.2.2.2.2.2.1 r61.2.2.2.2.2.2.2.2.2))))))
set_option maxHeartbeats 8000000 in
set_option maxRecDepth 100000 in
theorem lM_along_12_ok {g : Gm} {κ : ctx} (G : OK g κ RM cM_along 6 none rm_M_along) (X : Nat → va_E) (F : Nat) {x_many : Int32} {x_generator : Nat → Int32} {x_known : Int32} {x_without : Int32} {x_rows : Int32} {x_row : Nat → Int64} {x_pivot : Nat → Int32} {x_last : Nat → Int64} {x_point : Nat → Int64} {x_mode : Int32} {x_listed : Int32} {x_wanted : Int32} {x_minima : Nat → Int32} {x_measured : Int32} (v1 : Int32) (v4 : Int64) : ∀ (n : Nat) (x_fresh : Nat → Int64) (x_multiple : Nat → Int64) (x_made : Nat → Int64) (x_settled : Nat → Int64) (x_limit : Int64) (x_counted : Int32) (x_held : Int32) (x_first : Nat → Int64) (x_squares : Nat → Int64) (x_spanned : Int32) (x_span : Nat → Int64) (x_found : Nat → Int64) (x_any : Int32) (out : (Nat → Int64) × (Nat → Int64) × (Nat → Int64) × (Nat → Int64) × Int64 × Int32 × Int32 × (Nat → Int64) × (Nat → Int64) × Int32 × (Nat → Int64) × (Nat → Int64) × Int32), lM_along_12 F x_rows x_row x_pivot x_point x_mode x_wanted v1 v4 n x_fresh x_multiple x_made x_settled x_limit x_counted x_held x_first x_squares x_spanned x_span x_found x_any = some out → (J g κ 6 83 [] [] (LM κ (x_many, x_generator, x_known, x_without, x_rows, x_row, x_pivot, out.1, out.2.1, x_last, out.2.2.1, out.2.2.2.1, x_point, out.2.2.2.2.1, x_mode, out.2.2.2.2.2.1, x_listed, out.2.2.2.2.2.2.1, out.2.2.2.2.2.2.2.1, out.2.2.2.2.2.2.2.2.1, x_wanted, out.2.2.2.2.2.2.2.2.2.1, out.2.2.2.2.2.2.2.2.2.2.1, x_minima, x_measured, out.2.2.2.2.2.2.2.2.2.2.2.1, out.2.2.2.2.2.2.2.2.2.2.2.2) X)) → J g κ 6 12 [(0, .ref (κ.1 0)), (1, .int v1), (4, .long v4)] [] (LM κ (x_many, x_generator, x_known, x_without, x_rows, x_row, x_pivot, x_fresh, x_multiple, x_last, x_made, x_settled, x_point, x_limit, x_mode, x_counted, x_listed, x_held, x_first, x_squares, x_wanted, x_spanned, x_span, x_minima, x_measured, x_found, x_any) X) := by
  intro n
  induction n with
  | zero =>
    intro x_fresh x_multiple x_made x_settled x_limit x_counted x_held x_first x_squares x_spanned x_span x_found x_any
    intro out h
    rw [lM_along_12] at h
    cases h
  | succ n ih =>
    intro x_fresh x_multiple x_made x_settled x_limit x_counted x_held x_first x_squares x_spanned x_span x_found x_any out h K
    rw [lM_along_12] at h
    refine w_aload_n (pc := 12) (q := 0) G dM_along_12 rfl rfl ?_
    refine w_get (pc := 13) (v := .ref (κ.1 8)) (fs := fl_M κ (x_many, x_generator, x_known, x_without, x_rows, x_row, x_pivot, x_fresh, x_multiple, x_last, x_made, x_settled, x_point, x_limit, x_mode, x_counted, x_listed, x_held, x_first, x_squares, x_wanted, x_spanned, x_span, x_minima, x_measured, x_found, x_any)) G 0 (by decide) lb_M rfl wsM_ok 11 (by decide) wd501 gf_M_11 dM_along_13 ?_
    refine w_iload_n (pc := 16) (q := 1) G dM_along_16 rfl rfl ?_
    refine w_iconst (pc := 17) (v := (1 : Int32)) G dM_along_17 (by decide) ?_
    refine w_iadd (pc := 18) G dM_along_18 ?_
    obtain ⟨i19, h⟩ := gd_some h
    refine w_lald (pc := 19) (n := 5) (f := x_settled) G 8 (by decide) lk_settled i19 dM_along_19 ?_
    refine w_aload_n (pc := 20) (q := 0) G dM_along_20 rfl rfl ?_
    refine w_get (pc := 21) (v := .long x_limit) (fs := fl_M κ (x_many, x_generator, x_known, x_without, x_rows, x_row, x_pivot, x_fresh, x_multiple, x_last, x_made, x_settled, x_point, x_limit, x_mode, x_counted, x_listed, x_held, x_first, x_squares, x_wanted, x_spanned, x_span, x_minima, x_measured, x_found, x_any)) G 0 (by decide) lb_M rfl wsM_ok 13 (by decide) wd503 gf_M_13 dM_along_21 ?_
    refine w_lc_gt (pc := 24) (tgt := 83) G dM_along_24 dM_along_25 (by decide) (fun c24 => ?_) (fun c24 => ?_)
    · have h := if_t c24 h
      obtain rfl := Option.some.inj h
      refine w_sub (lv' := []) [] rfl ?_
      exact K
    · have h := if_f c24 h
      refine w_aload_n (pc := 28) (q := 0) G dM_along_28 rfl rfl ?_
      refine w_get (pc := 29) (v := .int x_mode) (fs := fl_M κ (x_many, x_generator, x_known, x_without, x_rows, x_row, x_pivot, x_fresh, x_multiple, x_last, x_made, x_settled, x_point, x_limit, x_mode, x_counted, x_listed, x_held, x_first, x_squares, x_wanted, x_spanned, x_span, x_minima, x_measured, x_found, x_any)) G 0 (by decide) lb_M rfl wsM_ok 14 (by decide) wd504 gf_M_14 dM_along_29 ?_
      refine w_iconst (pc := 32) (v := (2 : Int32)) G dM_along_32 (by decide) ?_
      refine w_icmp_ne (pc := 33) (tgt := 47) G dM_along_33 (by decide) (fun c33 => ?_) (fun c33 => ?_)
      · have h := if_t c33 h
        refine w_aload_n (pc := 36) (q := 0) G dM_along_36 rfl rfl ?_
        refine w_get (pc := 37) (v := .int x_spanned) (fs := fl_M κ (x_many, x_generator, x_known, x_without, x_rows, x_row, x_pivot, x_fresh, x_multiple, x_last, x_made, x_settled, x_point, x_limit, x_mode, x_counted, x_listed, x_held, x_first, x_squares, x_wanted, x_spanned, x_span, x_minima, x_measured, x_found, x_any)) G 0 (by decide) lb_M rfl wsM_ok 21 (by decide) wd511 gf_M_21 dM_along_37 ?_
        refine w_aload_n (pc := 40) (q := 0) G dM_along_40 rfl rfl ?_
        refine w_get (pc := 41) (v := .int x_wanted) (fs := fl_M κ (x_many, x_generator, x_known, x_without, x_rows, x_row, x_pivot, x_fresh, x_multiple, x_last, x_made, x_settled, x_point, x_limit, x_mode, x_counted, x_listed, x_held, x_first, x_squares, x_wanted, x_spanned, x_span, x_minima, x_measured, x_found, x_any)) G 0 (by decide) lb_M rfl wsM_ok 20 (by decide) wd510 gf_M_20 dM_along_41 ?_
        refine w_icmp_eq (pc := 44) (tgt := 83) G dM_along_44 (by decide) (fun c44 => ?_) (fun c44 => ?_)
        · have h := if_t c44 h
          obtain rfl := Option.some.inj h
          refine w_sub (lv' := []) [] rfl ?_
          exact K
        · have h := if_f c44 h
          refine w_aload_n (pc := 47) (q := 0) G dM_along_47 rfl rfl ?_
          refine w_iconst (pc := 48) (v := (4 : Int32)) G dM_along_48 (by decide) ?_
          refine w_iload_n (pc := 49) (q := 1) G dM_along_49 rfl rfl ?_
          refine w_imul (pc := 50) G dM_along_50 ?_
          refine w_iconst (pc := 51) (v := (4 : Int32)) G dM_along_51 (by decide) ?_
          refine w_iadd (pc := 52) G dM_along_52 ?_
          refine w_aload_n (pc := 53) (q := 0) G dM_along_53 rfl rfl ?_
          refine w_get (pc := 54) (v := .ref (κ.1 8)) (fs := fl_M κ (x_many, x_generator, x_known, x_without, x_rows, x_row, x_pivot, x_fresh, x_multiple, x_last, x_made, x_settled, x_point, x_limit, x_mode, x_counted, x_listed, x_held, x_first, x_squares, x_wanted, x_spanned, x_span, x_minima, x_measured, x_found, x_any)) G 0 (by decide) lb_M rfl wsM_ok 11 (by decide) wd501 gf_M_11 dM_along_54 ?_
          refine w_iload_n (pc := 57) (q := 1) G dM_along_57 rfl rfl ?_
          refine w_iconst (pc := 58) (v := (1 : Int32)) G dM_along_58 (by decide) ?_
          refine w_iadd (pc := 59) G dM_along_59 ?_
          obtain ⟨i60, h⟩ := gd_some h
          refine w_lald (pc := 60) (n := 5) (f := x_settled) G 8 (by decide) lk_settled i60 dM_along_60 ?_
          obtain ⟨r61, e61, h⟩ := bd h
          refine w_callV (pc := 61) (av := [.int (((4 : Int32) * v1) + (4 : Int32)), .long (x_settled (v1 + (1 : Int32)).toNatClampNeg)]) (rest := []) (v := none) (L' := (LM κ (x_many, x_generator, x_known, x_without, x_rows, x_row, x_pivot, r61.1, x_multiple, x_last, x_made, x_settled, x_point, r61.2.1, x_mode, r61.2.2.1, x_listed, r61.2.2.2.1, r61.2.2.2.2.1, r61.2.2.2.2.2.1, x_wanted, r61.2.2.2.2.2.2.1, r61.2.2.2.2.2.2.2.1, x_minima, x_measured, r61.2.2.2.2.2.2.2.2.1, r61.2.2.2.2.2.2.2.2.2) X)) (T := TM) (fs := fl_M κ (x_many, x_generator, x_known, x_without, x_rows, x_row, x_pivot, x_fresh, x_multiple, x_last, x_made, x_settled, x_point, x_limit, x_mode, x_counted, x_listed, x_held, x_first, x_squares, x_wanted, x_spanned, x_span, x_minima, x_measured, x_found, x_any)) G 0 0 27 (by decide) lb_M rfl cb_M_visit_M_along wd680 ws34 wd678 (met_M_visit κ X F (((4 : Int32) * v1) + (4 : Int32)) (x_settled (v1 + (1 : Int32)).toNatClampNeg)  e61) rfl rfl rfl (Nat.le_of_ble_eq_true rfl) dM_along_61 ?_
          refine w_aload_n (pc := 64) (q := 0) G dM_along_64 rfl rfl ?_
          refine w_get (pc := 65) (v := .ref (κ.1 5)) (fs := fl_M κ (x_many, x_generator, x_known, x_without, x_rows, x_row, x_pivot, r61.1, x_multiple, x_last, x_made, x_settled, x_point, r61.2.1, x_mode, r61.2.2.1, x_listed, r61.2.2.2.1, r61.2.2.2.2.1, r61.2.2.2.2.2.1, x_wanted, r61.2.2.2.2.2.2.1, r61.2.2.2.2.2.2.2.1, x_minima, x_measured, r61.2.2.2.2.2.2.2.2.1, r61.2.2.2.2.2.2.2.2.2)) G 0 (by decide) lb_M rfl wsM_ok 8 (by decide) wd498 gf_M_8 dM_along_65 ?_
          refine w_iload_n (pc := 68) (q := 1) G dM_along_68 rfl rfl ?_
          refine w_dup2_11 (pc := 69) G dM_along_69 rfl rfl ?_
          obtain ⟨i70, h⟩ := gd_some h
          refine w_lald (pc := 70) (n := 4) (f := x_multiple) G 5 (by decide) lk_multiple i70 dM_along_70 ?_
          refine w_lload (pc := 71) (q := 2) G dM_along_71 rfl ?_
          refine w_ladd (pc := 73) G dM_along_73 ?_
          obtain ⟨i74, h⟩ := gd_some h
          refine w_last (pc := 74) (n := 4) (f := x_multiple) (L1 := (LM κ (x_many, x_generator, x_known, x_without, x_rows, x_row, x_pivot, r61.1, vp_updL x_multiple v1.toNatClampNeg ((x_multiple v1.toNatClampNeg) + v4), x_last, x_made, x_settled, x_point, r61.2.1, x_mode, r61.2.2.1, x_listed, r61.2.2.2.1, r61.2.2.2.2.1, r61.2.2.2.2.2.1, x_wanted, r61.2.2.2.2.2.2.1, r61.2.2.2.2.2.2.2.1, x_minima, x_measured, r61.2.2.2.2.2.2.2.2.1, r61.2.2.2.2.2.2.2.2.2) X)) G 5 (by decide) lk_multiple i74 dM_along_74 up_multiple ?_
          refine w_aload_n (pc := 75) (q := 0) G dM_along_75 rfl rfl ?_
          refine w_iload_n (pc := 76) (q := 1) G dM_along_76 rfl rfl ?_
          obtain ⟨r77, e77, h⟩ := bd h
          refine w_callV (pc := 77) (av := [.int v1]) (rest := []) (v := none) (L' := (LM κ (x_many, x_generator, x_known, x_without, x_rows, x_row, x_pivot, r61.1, vp_updL x_multiple v1.toNatClampNeg ((x_multiple v1.toNatClampNeg) + v4), x_last, r77.1, r77.2, x_point, r61.2.1, x_mode, r61.2.2.1, x_listed, r61.2.2.2.1, r61.2.2.2.2.1, r61.2.2.2.2.2.1, x_wanted, r61.2.2.2.2.2.2.1, r61.2.2.2.2.2.2.2.1, x_minima, x_measured, r61.2.2.2.2.2.2.2.2.1, r61.2.2.2.2.2.2.2.2.2) X)) (T := TM) (fs := fl_M κ (x_many, x_generator, x_known, x_without, x_rows, x_row, x_pivot, r61.1, vp_updL x_multiple v1.toNatClampNeg ((x_multiple v1.toNatClampNeg) + v4), x_last, x_made, x_settled, x_point, r61.2.1, x_mode, r61.2.2.1, x_listed, r61.2.2.2.1, r61.2.2.2.2.1, r61.2.2.2.2.2.1, x_wanted, r61.2.2.2.2.2.2.1, r61.2.2.2.2.2.2.2.1, x_minima, x_measured, r61.2.2.2.2.2.2.2.2.1, r61.2.2.2.2.2.2.2.2.2)) G 0 0 27 (by decide) lb_M rfl cb_M_take_M_along wd717 ws43 wd715 (met_M_take κ X F v1  e77) rfl rfl rfl (Nat.le_of_ble_eq_true rfl) dM_along_77 ?_
          refine w_goto (pc := 80) (tgt := 12) G dM_along_80 (by decide) ?_
          refine w_sub (lv' := [(0, .ref (κ.1 0)), (1, .int v1), (4, .long v4)]) [0, 1, 2] rfl ?_
          exact ih r61.1 (vp_updL x_multiple v1.toNatClampNeg ((x_multiple v1.toNatClampNeg) + v4)) r77.1 r77.2 r61.2.1 r61.2.2.1 r61.2.2.2.1 r61.2.2.2.2.1 r61.2.2.2.2.2.1 r61.2.2.2.2.2.2.1 r61.2.2.2.2.2.2.2.1 r61.2.2.2.2.2.2.2.2.1 r61.2.2.2.2.2.2.2.2.2 out h K
      · have h := if_f c33 h
        refine w_aload_n (pc := 47) (q := 0) G dM_along_47 rfl rfl ?_
        refine w_iconst (pc := 48) (v := (4 : Int32)) G dM_along_48 (by decide) ?_
        refine w_iload_n (pc := 49) (q := 1) G dM_along_49 rfl rfl ?_
        refine w_imul (pc := 50) G dM_along_50 ?_
        refine w_iconst (pc := 51) (v := (4 : Int32)) G dM_along_51 (by decide) ?_
        refine w_iadd (pc := 52) G dM_along_52 ?_
        refine w_aload_n (pc := 53) (q := 0) G dM_along_53 rfl rfl ?_
        refine w_get (pc := 54) (v := .ref (κ.1 8)) (fs := fl_M κ (x_many, x_generator, x_known, x_without, x_rows, x_row, x_pivot, x_fresh, x_multiple, x_last, x_made, x_settled, x_point, x_limit, x_mode, x_counted, x_listed, x_held, x_first, x_squares, x_wanted, x_spanned, x_span, x_minima, x_measured, x_found, x_any)) G 0 (by decide) lb_M rfl wsM_ok 11 (by decide) wd501 gf_M_11 dM_along_54 ?_
        refine w_iload_n (pc := 57) (q := 1) G dM_along_57 rfl rfl ?_
        refine w_iconst (pc := 58) (v := (1 : Int32)) G dM_along_58 (by decide) ?_
        refine w_iadd (pc := 59) G dM_along_59 ?_
        obtain ⟨i60, h⟩ := gd_some h
        refine w_lald (pc := 60) (n := 5) (f := x_settled) G 8 (by decide) lk_settled i60 dM_along_60 ?_
        obtain ⟨r61, e61, h⟩ := bd h
        refine w_callV (pc := 61) (av := [.int (((4 : Int32) * v1) + (4 : Int32)), .long (x_settled (v1 + (1 : Int32)).toNatClampNeg)]) (rest := []) (v := none) (L' := (LM κ (x_many, x_generator, x_known, x_without, x_rows, x_row, x_pivot, r61.1, x_multiple, x_last, x_made, x_settled, x_point, r61.2.1, x_mode, r61.2.2.1, x_listed, r61.2.2.2.1, r61.2.2.2.2.1, r61.2.2.2.2.2.1, x_wanted, r61.2.2.2.2.2.2.1, r61.2.2.2.2.2.2.2.1, x_minima, x_measured, r61.2.2.2.2.2.2.2.2.1, r61.2.2.2.2.2.2.2.2.2) X)) (T := TM) (fs := fl_M κ (x_many, x_generator, x_known, x_without, x_rows, x_row, x_pivot, x_fresh, x_multiple, x_last, x_made, x_settled, x_point, x_limit, x_mode, x_counted, x_listed, x_held, x_first, x_squares, x_wanted, x_spanned, x_span, x_minima, x_measured, x_found, x_any)) G 0 0 27 (by decide) lb_M rfl cb_M_visit_M_along wd680 ws34 wd678 (met_M_visit κ X F (((4 : Int32) * v1) + (4 : Int32)) (x_settled (v1 + (1 : Int32)).toNatClampNeg)  e61) rfl rfl rfl (Nat.le_of_ble_eq_true rfl) dM_along_61 ?_
        refine w_aload_n (pc := 64) (q := 0) G dM_along_64 rfl rfl ?_
        refine w_get (pc := 65) (v := .ref (κ.1 5)) (fs := fl_M κ (x_many, x_generator, x_known, x_without, x_rows, x_row, x_pivot, r61.1, x_multiple, x_last, x_made, x_settled, x_point, r61.2.1, x_mode, r61.2.2.1, x_listed, r61.2.2.2.1, r61.2.2.2.2.1, r61.2.2.2.2.2.1, x_wanted, r61.2.2.2.2.2.2.1, r61.2.2.2.2.2.2.2.1, x_minima, x_measured, r61.2.2.2.2.2.2.2.2.1, r61.2.2.2.2.2.2.2.2.2)) G 0 (by decide) lb_M rfl wsM_ok 8 (by decide) wd498 gf_M_8 dM_along_65 ?_
        refine w_iload_n (pc := 68) (q := 1) G dM_along_68 rfl rfl ?_
        refine w_dup2_11 (pc := 69) G dM_along_69 rfl rfl ?_
        obtain ⟨i70, h⟩ := gd_some h
        refine w_lald (pc := 70) (n := 4) (f := x_multiple) G 5 (by decide) lk_multiple i70 dM_along_70 ?_
        refine w_lload (pc := 71) (q := 2) G dM_along_71 rfl ?_
        refine w_ladd (pc := 73) G dM_along_73 ?_
        obtain ⟨i74, h⟩ := gd_some h
        refine w_last (pc := 74) (n := 4) (f := x_multiple) (L1 := (LM κ (x_many, x_generator, x_known, x_without, x_rows, x_row, x_pivot, r61.1, vp_updL x_multiple v1.toNatClampNeg ((x_multiple v1.toNatClampNeg) + v4), x_last, x_made, x_settled, x_point, r61.2.1, x_mode, r61.2.2.1, x_listed, r61.2.2.2.1, r61.2.2.2.2.1, r61.2.2.2.2.2.1, x_wanted, r61.2.2.2.2.2.2.1, r61.2.2.2.2.2.2.2.1, x_minima, x_measured, r61.2.2.2.2.2.2.2.2.1, r61.2.2.2.2.2.2.2.2.2) X)) G 5 (by decide) lk_multiple i74 dM_along_74 up_multiple ?_
        refine w_aload_n (pc := 75) (q := 0) G dM_along_75 rfl rfl ?_
        refine w_iload_n (pc := 76) (q := 1) G dM_along_76 rfl rfl ?_
        obtain ⟨r77, e77, h⟩ := bd h
        refine w_callV (pc := 77) (av := [.int v1]) (rest := []) (v := none) (L' := (LM κ (x_many, x_generator, x_known, x_without, x_rows, x_row, x_pivot, r61.1, vp_updL x_multiple v1.toNatClampNeg ((x_multiple v1.toNatClampNeg) + v4), x_last, r77.1, r77.2, x_point, r61.2.1, x_mode, r61.2.2.1, x_listed, r61.2.2.2.1, r61.2.2.2.2.1, r61.2.2.2.2.2.1, x_wanted, r61.2.2.2.2.2.2.1, r61.2.2.2.2.2.2.2.1, x_minima, x_measured, r61.2.2.2.2.2.2.2.2.1, r61.2.2.2.2.2.2.2.2.2) X)) (T := TM) (fs := fl_M κ (x_many, x_generator, x_known, x_without, x_rows, x_row, x_pivot, r61.1, vp_updL x_multiple v1.toNatClampNeg ((x_multiple v1.toNatClampNeg) + v4), x_last, x_made, x_settled, x_point, r61.2.1, x_mode, r61.2.2.1, x_listed, r61.2.2.2.1, r61.2.2.2.2.1, r61.2.2.2.2.2.1, x_wanted, r61.2.2.2.2.2.2.1, r61.2.2.2.2.2.2.2.1, x_minima, x_measured, r61.2.2.2.2.2.2.2.2.1, r61.2.2.2.2.2.2.2.2.2)) G 0 0 27 (by decide) lb_M rfl cb_M_take_M_along wd717 ws43 wd715 (met_M_take κ X F v1  e77) rfl rfl rfl (Nat.le_of_ble_eq_true rfl) dM_along_77 ?_
        refine w_goto (pc := 80) (tgt := 12) G dM_along_80 (by decide) ?_
        refine w_sub (lv' := [(0, .ref (κ.1 0)), (1, .int v1), (4, .long v4)]) [0, 1, 2] rfl ?_
        exact ih r61.1 (vp_updL x_multiple v1.toNatClampNeg ((x_multiple v1.toNatClampNeg) + v4)) r77.1 r77.2 r61.2.1 r61.2.2.1 r61.2.2.2.1 r61.2.2.2.2.1 r61.2.2.2.2.2.1 r61.2.2.2.2.2.2.1 r61.2.2.2.2.2.2.2.1 r61.2.2.2.2.2.2.2.2.1 r61.2.2.2.2.2.2.2.2.2 out h K
noncomputable def M_along (F : Nat) (x_rows : Int32) (x_row : Nat → Int64) (x_pivot : Nat → Int32) (x_fresh : Nat → Int64) (x_multiple : Nat → Int64) (x_made : Nat → Int64) (x_settled : Nat → Int64) (x_point : Nat → Int64) (x_limit : Int64) (x_mode : Int32) (x_counted : Int32) (x_held : Int32) (x_first : Nat → Int64) (x_squares : Nat → Int64) (x_wanted : Int32) (x_spanned : Int32) (x_span : Nat → Int64) (x_found : Nat → Int64) (x_any : Int32) (v1 : Int32) (v2 : Int64) (v4 : Int64) : Option ((Nat → Int64) × (Nat → Int64) × (Nat → Int64) × (Nat → Int64) × Int64 × Int32 × Int32 × (Nat → Int64) × (Nat → Int64) × Int32 × (Nat → Int64) × (Nat → Int64) × Int32) := gd (vp_in v1 4) ((M_take F x_rows x_row x_pivot (vp_updL x_multiple v1.toNatClampNeg v2) x_made x_settled x_point v1).bind (fun r9 => (lM_along_12 F x_rows x_row x_pivot x_point x_mode x_wanted v1 v4 F x_fresh (vp_updL x_multiple v1.toNatClampNeg v2) r9.1 r9.2 x_limit x_counted x_held x_first x_squares x_spanned x_span x_found x_any).bind (fun o12_15 => some (o12_15.1, o12_15.2.1, o12_15.2.2.1, o12_15.2.2.2.1, o12_15.2.2.2.2.1, o12_15.2.2.2.2.2.1, o12_15.2.2.2.2.2.2.1, o12_15.2.2.2.2.2.2.2.1, o12_15.2.2.2.2.2.2.2.2.1, o12_15.2.2.2.2.2.2.2.2.2.1, o12_15.2.2.2.2.2.2.2.2.2.2.1, o12_15.2.2.2.2.2.2.2.2.2.2.2.1, o12_15.2.2.2.2.2.2.2.2.2.2.2.2))))
set_option maxHeartbeats 8000000 in
set_option maxRecDepth 100000 in
theorem met_M_along (κ : ctx) (X : Nat → va_E) (F : Nat) {x_many : Int32} {x_generator : Nat → Int32} {x_known : Int32} {x_without : Int32} {x_rows : Int32} {x_row : Nat → Int64} {x_pivot : Nat → Int32} {x_fresh : Nat → Int64} {x_multiple : Nat → Int64} {x_last : Nat → Int64} {x_made : Nat → Int64} {x_settled : Nat → Int64} {x_point : Nat → Int64} {x_limit : Int64} {x_mode : Int32} {x_counted : Int32} {x_listed : Int32} {x_held : Int32} {x_first : Nat → Int64} {x_squares : Nat → Int64} {x_wanted : Int32} {x_spanned : Int32} {x_span : Nat → Int64} {x_minima : Nat → Int32} {x_measured : Int32} {x_found : Nat → Int64} {x_any : Int32} (v1 : Int32) (v2 : Int64) (v4 : Int64) {out : (Nat → Int64) × (Nat → Int64) × (Nat → Int64) × (Nat → Int64) × Int64 × Int32 × Int32 × (Nat → Int64) × (Nat → Int64) × Int32 × (Nat → Int64) × (Nat → Int64) × Int32} (h : M_along F x_rows x_row x_pivot x_fresh x_multiple x_made x_settled x_point x_limit x_mode x_counted x_held x_first x_squares x_wanted x_spanned x_span x_found x_any v1 v2 v4 = some out) : Mt yM_along cM_along 6 none rm_M_along κ [.ref (κ.1 0), .int v1, .long v2, .long v4] (LM κ (x_many, x_generator, x_known, x_without, x_rows, x_row, x_pivot, x_fresh, x_multiple, x_last, x_made, x_settled, x_point, x_limit, x_mode, x_counted, x_listed, x_held, x_first, x_squares, x_wanted, x_spanned, x_span, x_minima, x_measured, x_found, x_any) X) none (LM κ (x_many, x_generator, x_known, x_without, x_rows, x_row, x_pivot, out.1, out.2.1, x_last, out.2.2.1, out.2.2.2.1, x_point, out.2.2.2.2.1, x_mode, out.2.2.2.2.2.1, x_listed, out.2.2.2.2.2.2.1, out.2.2.2.2.2.2.2.1, out.2.2.2.2.2.2.2.2.1, x_wanted, out.2.2.2.2.2.2.2.2.2.1, out.2.2.2.2.2.2.2.2.2.2.1, x_minima, x_measured, out.2.2.2.2.2.2.2.2.2.2.2.1, out.2.2.2.2.2.2.2.2.2.2.2.2) X) := by
  refine Mt.of (by decide) (Nat.le_of_ble_eq_true rfl) ?_
  intro g G Fh
  unfold M_along at h
  show J g κ 6 0 [(0, .ref (κ.1 0)), (1, .int v1), (2, .long v2), (4, .long v4)] [] (LM κ (x_many, x_generator, x_known, x_without, x_rows, x_row, x_pivot, x_fresh, x_multiple, x_last, x_made, x_settled, x_point, x_limit, x_mode, x_counted, x_listed, x_held, x_first, x_squares, x_wanted, x_spanned, x_span, x_minima, x_measured, x_found, x_any) X)
  refine w_aload_n (pc := 0) (q := 0) G dM_along_0 rfl rfl ?_
  refine w_get (pc := 1) (v := .ref (κ.1 5)) (fs := fl_M κ (x_many, x_generator, x_known, x_without, x_rows, x_row, x_pivot, x_fresh, x_multiple, x_last, x_made, x_settled, x_point, x_limit, x_mode, x_counted, x_listed, x_held, x_first, x_squares, x_wanted, x_spanned, x_span, x_minima, x_measured, x_found, x_any)) G 0 (by decide) lb_M rfl wsM_ok 8 (by decide) wd498 gf_M_8 dM_along_1 ?_
  refine w_iload_n (pc := 4) (q := 1) G dM_along_4 rfl rfl ?_
  refine w_lload_n (pc := 5) (q := 2) G dM_along_5 rfl rfl ?_
  obtain ⟨i6, h⟩ := gd_some h
  refine w_last (pc := 6) (n := 4) (f := x_multiple) (L1 := (LM κ (x_many, x_generator, x_known, x_without, x_rows, x_row, x_pivot, x_fresh, vp_updL x_multiple v1.toNatClampNeg v2, x_last, x_made, x_settled, x_point, x_limit, x_mode, x_counted, x_listed, x_held, x_first, x_squares, x_wanted, x_spanned, x_span, x_minima, x_measured, x_found, x_any) X)) G 5 (by decide) lk_multiple i6 dM_along_6 up_multiple ?_
  refine w_aload_n (pc := 7) (q := 0) G dM_along_7 rfl rfl ?_
  refine w_iload_n (pc := 8) (q := 1) G dM_along_8 rfl rfl ?_
  obtain ⟨r9, e9, h⟩ := bd h
  refine w_callV (pc := 9) (av := [.int v1]) (rest := []) (v := none) (L' := (LM κ (x_many, x_generator, x_known, x_without, x_rows, x_row, x_pivot, x_fresh, vp_updL x_multiple v1.toNatClampNeg v2, x_last, r9.1, r9.2, x_point, x_limit, x_mode, x_counted, x_listed, x_held, x_first, x_squares, x_wanted, x_spanned, x_span, x_minima, x_measured, x_found, x_any) X)) (T := TM) (fs := fl_M κ (x_many, x_generator, x_known, x_without, x_rows, x_row, x_pivot, x_fresh, vp_updL x_multiple v1.toNatClampNeg v2, x_last, x_made, x_settled, x_point, x_limit, x_mode, x_counted, x_listed, x_held, x_first, x_squares, x_wanted, x_spanned, x_span, x_minima, x_measured, x_found, x_any)) G 0 0 27 (by decide) lb_M rfl cb_M_take_M_along wd717 ws43 wd715 (met_M_take κ X F v1  e9) rfl rfl rfl (Nat.le_of_ble_eq_true rfl) dM_along_9 ?_
  refine w_sub (lv' := [(0, .ref (κ.1 0)), (1, .int v1), (4, .long v4)]) [0, 1, 3] rfl ?_
  obtain ⟨o12_15, eo12_15, h⟩ := bd h
  refine lM_along_12_ok G X F v1 v4 F x_fresh (vp_updL x_multiple v1.toNatClampNeg v2) r9.1 r9.2 x_limit x_counted x_held x_first x_squares x_spanned x_span x_found x_any o12_15 eo12_15 ?_
  obtain rfl := Option.some.inj h
  exact w_vret (pc := 83) G dM_along_83 Fh
def rm_M_finish : Room := { frames := 5, cells := 0, slots := 0, locals := 128 }
theorem dM_finish_0 : decode cM_finish 0 = .ok (.lconst 0, 1) := by decide +kernel
theorem dM_finish_1 : decode cM_finish 1 = .ok (.lstore_n 2, 1) := by decide +kernel
theorem dM_finish_2 : decode cM_finish 2 = .ok (.lconst 0, 1) := by decide +kernel
theorem dM_finish_3 : decode cM_finish 3 = .ok (.lstore 4, 2) := by decide +kernel
theorem dM_finish_5 : decode cM_finish 5 = .ok (.aload_n 0, 1) := by decide +kernel
theorem dM_finish_6 : decode cM_finish 6 = .ok (.getfield 17, 3) := by decide +kernel
theorem dM_finish_9 : decode cM_finish 9 = .ok (.iload_n 1, 1) := by decide +kernel
theorem dM_finish_10 : decode cM_finish 10 = .ok (.iaload, 1) := by decide +kernel
theorem dM_finish_11 : decode cM_finish 11 = .ok (.istore 6, 2) := by decide +kernel
theorem dM_finish_13 : decode cM_finish 13 = .ok (.iload 6, 2) := by decide +kernel
theorem dM_finish_15 : decode cM_finish 15 = .ok (.iconst 4, 1) := by decide +kernel
theorem dM_finish_16 : decode cM_finish 16 = .ok (.if_icmp .ge 71, 3) := by decide +kernel
theorem dM_finish_19 : decode cM_finish 19 = .ok (.lload_n 2, 1) := by decide +kernel
theorem dM_finish_20 : decode cM_finish 20 = .ok (.aload_n 0, 1) := by decide +kernel
theorem dM_finish_21 : decode cM_finish 21 = .ok (.getfield 13, 3) := by decide +kernel
theorem dM_finish_24 : decode cM_finish 24 = .ok (.iconst 4, 1) := by decide +kernel
theorem dM_finish_25 : decode cM_finish 25 = .ok (.iload_n 1, 1) := by decide +kernel
theorem dM_finish_26 : decode cM_finish 26 = .ok (.imul, 1) := by decide +kernel
theorem dM_finish_27 : decode cM_finish 27 = .ok (.iload 6, 2) := by decide +kernel
theorem dM_finish_29 : decode cM_finish 29 = .ok (.iadd, 1) := by decide +kernel
theorem dM_finish_30 : decode cM_finish 30 = .ok (.laload, 1) := by decide +kernel
theorem dM_finish_31 : decode cM_finish 31 = .ok (.aload_n 0, 1) := by decide +kernel
theorem dM_finish_32 : decode cM_finish 32 = .ok (.getfield 13, 3) := by decide +kernel
theorem dM_finish_35 : decode cM_finish 35 = .ok (.iconst 4, 1) := by decide +kernel
theorem dM_finish_36 : decode cM_finish 36 = .ok (.iload_n 1, 1) := by decide +kernel
theorem dM_finish_37 : decode cM_finish 37 = .ok (.imul, 1) := by decide +kernel
theorem dM_finish_38 : decode cM_finish 38 = .ok (.iload 6, 2) := by decide +kernel
theorem dM_finish_40 : decode cM_finish 40 = .ok (.iadd, 1) := by decide +kernel
theorem dM_finish_41 : decode cM_finish 41 = .ok (.laload, 1) := by decide +kernel
theorem dM_finish_42 : decode cM_finish 42 = .ok (.lmul, 1) := by decide +kernel
theorem dM_finish_43 : decode cM_finish 43 = .ok (.ladd, 1) := by decide +kernel
theorem dM_finish_44 : decode cM_finish 44 = .ok (.lstore_n 2, 1) := by decide +kernel
theorem dM_finish_45 : decode cM_finish 45 = .ok (.lload 4, 2) := by decide +kernel
theorem dM_finish_47 : decode cM_finish 47 = .ok (.aload_n 0, 1) := by decide +kernel
theorem dM_finish_48 : decode cM_finish 48 = .ok (.getfield 13, 3) := by decide +kernel
theorem dM_finish_51 : decode cM_finish 51 = .ok (.iconst 4, 1) := by decide +kernel
theorem dM_finish_52 : decode cM_finish 52 = .ok (.iload_n 1, 1) := by decide +kernel
theorem dM_finish_53 : decode cM_finish 53 = .ok (.imul, 1) := by decide +kernel
theorem dM_finish_54 : decode cM_finish 54 = .ok (.iload 6, 2) := by decide +kernel
theorem dM_finish_56 : decode cM_finish 56 = .ok (.iadd, 1) := by decide +kernel
theorem dM_finish_57 : decode cM_finish 57 = .ok (.laload, 1) := by decide +kernel
theorem dM_finish_58 : decode cM_finish 58 = .ok (.aload_n 0, 1) := by decide +kernel
theorem dM_finish_59 : decode cM_finish 59 = .ok (.getfield 35, 3) := by decide +kernel
theorem dM_finish_62 : decode cM_finish 62 = .ok (.iload 6, 2) := by decide +kernel
theorem dM_finish_64 : decode cM_finish 64 = .ok (.laload, 1) := by decide +kernel
theorem dM_finish_65 : decode cM_finish 65 = .ok (.aload_n 0, 1) := by decide +kernel
theorem dM_finish_66 : decode cM_finish 66 = .ok (.getfield 29, 3) := by decide +kernel
theorem dM_finish_69 : decode cM_finish 69 = .ok (.iconst 4, 1) := by decide +kernel
theorem dM_finish_70 : decode cM_finish 70 = .ok (.iload_n 1, 1) := by decide +kernel
theorem dM_finish_71 : decode cM_finish 71 = .ok (.imul, 1) := by decide +kernel
theorem dM_finish_72 : decode cM_finish 72 = .ok (.iload 6, 2) := by decide +kernel
theorem dM_finish_74 : decode cM_finish 74 = .ok (.iadd, 1) := by decide +kernel
theorem dM_finish_75 : decode cM_finish 75 = .ok (.laload, 1) := by decide +kernel
theorem dM_finish_76 : decode cM_finish 76 = .ok (.lsub, 1) := by decide +kernel
theorem dM_finish_77 : decode cM_finish 77 = .ok (.lmul, 1) := by decide +kernel
theorem dM_finish_78 : decode cM_finish 78 = .ok (.ladd, 1) := by decide +kernel
theorem dM_finish_79 : decode cM_finish 79 = .ok (.lstore 4, 2) := by decide +kernel
theorem dM_finish_81 : decode cM_finish 81 = .ok (.iinc 6 1, 3) := by decide +kernel
theorem dM_finish_84 : decode cM_finish 84 = .ok (.goto (-71), 3) := by decide +kernel
theorem dM_finish_87 : decode cM_finish 87 = .ok (.ldc2_w 130, 3) := by decide +kernel
theorem dM_finish_90 : decode cM_finish 90 = .ok (.lload 4, 2) := by decide +kernel
theorem dM_finish_92 : decode cM_finish 92 = .ok (.lmul, 1) := by decide +kernel
theorem dM_finish_93 : decode cM_finish 93 = .ok (.lload_n 2, 1) := by decide +kernel
theorem dM_finish_94 : decode cM_finish 94 = .ok (.ladd, 1) := by decide +kernel
theorem dM_finish_95 : decode cM_finish 95 = .ok (.ldc2_w 130, 3) := by decide +kernel
theorem dM_finish_98 : decode cM_finish 98 = .ok (.lload_n 2, 1) := by decide +kernel
theorem dM_finish_99 : decode cM_finish 99 = .ok (.lmul, 1) := by decide +kernel
theorem dM_finish_100 : decode cM_finish 100 = .ok (.invokestatic 81, 3) := by decide +kernel
theorem dM_finish_103 : decode cM_finish 103 = .ok (.lstore 6, 2) := by decide +kernel
theorem dM_finish_105 : decode cM_finish 105 = .ok (.aload_n 0, 1) := by decide +kernel
theorem dM_finish_106 : decode cM_finish 106 = .ok (.iload_n 1, 1) := by decide +kernel
theorem dM_finish_107 : decode cM_finish 107 = .ok (.lload 6, 2) := by decide +kernel
theorem dM_finish_109 : decode cM_finish 109 = .ok (.lconst 1, 1) := by decide +kernel
theorem dM_finish_110 : decode cM_finish 110 = .ok (.invokevirtual 159, 3) := by decide +kernel
theorem dM_finish_113 : decode cM_finish 113 = .ok (.aload_n 0, 1) := by decide +kernel
theorem dM_finish_114 : decode cM_finish 114 = .ok (.iload_n 1, 1) := by decide +kernel
theorem dM_finish_115 : decode cM_finish 115 = .ok (.lload 6, 2) := by decide +kernel
theorem dM_finish_117 : decode cM_finish 117 = .ok (.lconst 1, 1) := by decide +kernel
theorem dM_finish_118 : decode cM_finish 118 = .ok (.lsub, 1) := by decide +kernel
theorem dM_finish_119 : decode cM_finish 119 = .ok (.ldc2_w 126, 3) := by decide +kernel
theorem dM_finish_122 : decode cM_finish 122 = .ok (.invokevirtual 159, 3) := by decide +kernel
theorem dM_finish_125 : decode cM_finish 125 = .ok (.return_, 1) := by decide +kernel
theorem cb_M_along_M_finish : CB yM_along cM_along 6 none rm_M_along rm_M_finish 3 := ⟨wd714, wd8, by decide +kernel, rfl, rfl, by decide⟩
theorem cb_M_under_M_finish : CB yM_under cM_under 6 (some .long) rm_M_under rm_M_finish 2 := ⟨wd613, wd8, by decide +kernel, rfl, rfl, by decide⟩
noncomputable def lM_finish_13 (F : Nat) (x_row : Nat → Int64) (x_made : Nat → Int64) (x_point : Nat → Int64) (v1 : Int32) : Nat → Int64 → Int64 → Int32 → Option (Int64 × Int64)
  | 0, _, _, _ => none
  | n + 1, v2, v4, v6 => if (4 : Int32) ≤ v6 then some (v2, v4) else gd (vp_in (((4 : Int32) * v1) + v6) 16) (gd (vp_in (((4 : Int32) * v1) + v6) 16) (gd (vp_in (((4 : Int32) * v1) + v6) 16) (gd (vp_in v6 4) (gd (vp_in (((4 : Int32) * v1) + v6) 20) (lM_finish_13 F x_row x_made x_point v1 n (v2 + ((x_row (((4 : Int32) * v1) + v6).toNatClampNeg) * (x_row (((4 : Int32) * v1) + v6).toNatClampNeg))) (v4 + ((x_row (((4 : Int32) * v1) + v6).toNatClampNeg) * ((x_point v6.toNatClampNeg) - (x_made (((4 : Int32) * v1) + v6).toNatClampNeg)))) (v6 + 1))))))
set_option maxHeartbeats 8000000 in
set_option maxRecDepth 100000 in
theorem lM_finish_13_ok {g : Gm} {κ : ctx} (G : OK g κ RM cM_finish 8 none rm_M_finish) (X : Nat → va_E) (F : Nat) {x_many : Int32} {x_generator : Nat → Int32} {x_known : Int32} {x_without : Int32} {x_rows : Int32} {x_row : Nat → Int64} {x_pivot : Nat → Int32} {x_fresh : Nat → Int64} {x_multiple : Nat → Int64} {x_last : Nat → Int64} {x_made : Nat → Int64} {x_settled : Nat → Int64} {x_point : Nat → Int64} {x_limit : Int64} {x_mode : Int32} {x_counted : Int32} {x_listed : Int32} {x_held : Int32} {x_first : Nat → Int64} {x_squares : Nat → Int64} {x_wanted : Int32} {x_spanned : Int32} {x_span : Nat → Int64} {x_minima : Nat → Int32} {x_measured : Int32} {x_found : Nat → Int64} {x_any : Int32} (v1 : Int32) : ∀ (n : Nat) (v2 : Int64) (v4 : Int64) (v6 : Int32) (out : Int64 × Int64), lM_finish_13 F x_row x_made x_point v1 n v2 v4 v6 = some out → (J g κ 8 87 [(0, .ref (κ.1 0)), (1, .int v1), (2, .long out.1), (4, .long out.2)] [] (LM κ (x_many, x_generator, x_known, x_without, x_rows, x_row, x_pivot, x_fresh, x_multiple, x_last, x_made, x_settled, x_point, x_limit, x_mode, x_counted, x_listed, x_held, x_first, x_squares, x_wanted, x_spanned, x_span, x_minima, x_measured, x_found, x_any) X)) → J g κ 8 13 [(0, .ref (κ.1 0)), (1, .int v1), (2, .long v2), (4, .long v4), (6, .int v6)] [] (LM κ (x_many, x_generator, x_known, x_without, x_rows, x_row, x_pivot, x_fresh, x_multiple, x_last, x_made, x_settled, x_point, x_limit, x_mode, x_counted, x_listed, x_held, x_first, x_squares, x_wanted, x_spanned, x_span, x_minima, x_measured, x_found, x_any) X) := by
  intro n
  induction n with
  | zero =>
    intro v2 v4 v6
    intro out h
    rw [lM_finish_13] at h
    cases h
  | succ n ih =>
    intro v2 v4 v6 out h K
    rw [lM_finish_13] at h
    refine w_iload (pc := 13) (q := 4) G dM_finish_13 rfl ?_
    refine w_iconst (pc := 15) (v := (4 : Int32)) G dM_finish_15 (by decide) ?_
    refine w_icmp_ge (pc := 16) (tgt := 87) G dM_finish_16 (by decide) (fun c16 => ?_) (fun c16 => ?_)
    · have h := if_t c16 h
      obtain rfl := Option.some.inj h
      refine w_sub (lv' := [(0, .ref (κ.1 0)), (1, .int v1), (2, .long v2), (4, .long v4)]) [0, 1, 2, 3] rfl ?_
      exact K
    · have h := if_f c16 h
      refine w_lload_n (pc := 19) (q := 2) G dM_finish_19 rfl rfl ?_
      refine w_aload_n (pc := 20) (q := 0) G dM_finish_20 rfl rfl ?_
      refine w_get (pc := 21) (v := .ref (κ.1 2)) (fs := fl_M κ (x_many, x_generator, x_known, x_without, x_rows, x_row, x_pivot, x_fresh, x_multiple, x_last, x_made, x_settled, x_point, x_limit, x_mode, x_counted, x_listed, x_held, x_first, x_squares, x_wanted, x_spanned, x_span, x_minima, x_measured, x_found, x_any)) G 0 (by decide) lb_M rfl wsM_ok 5 (by decide) wd495 gf_M_5 dM_finish_21 ?_
      refine w_iconst (pc := 24) (v := (4 : Int32)) G dM_finish_24 (by decide) ?_
      refine w_iload_n (pc := 25) (q := 1) G dM_finish_25 rfl rfl ?_
      refine w_imul (pc := 26) G dM_finish_26 ?_
      refine w_iload (pc := 27) (q := 4) G dM_finish_27 rfl ?_
      refine w_iadd (pc := 29) G dM_finish_29 ?_
      obtain ⟨i30, h⟩ := gd_some h
      refine w_lald (pc := 30) (n := 16) (f := x_row) G 2 (by decide) lk_row i30 dM_finish_30 ?_
      refine w_aload_n (pc := 31) (q := 0) G dM_finish_31 rfl rfl ?_
      refine w_get (pc := 32) (v := .ref (κ.1 2)) (fs := fl_M κ (x_many, x_generator, x_known, x_without, x_rows, x_row, x_pivot, x_fresh, x_multiple, x_last, x_made, x_settled, x_point, x_limit, x_mode, x_counted, x_listed, x_held, x_first, x_squares, x_wanted, x_spanned, x_span, x_minima, x_measured, x_found, x_any)) G 0 (by decide) lb_M rfl wsM_ok 5 (by decide) wd495 gf_M_5 dM_finish_32 ?_
      refine w_iconst (pc := 35) (v := (4 : Int32)) G dM_finish_35 (by decide) ?_
      refine w_iload_n (pc := 36) (q := 1) G dM_finish_36 rfl rfl ?_
      refine w_imul (pc := 37) G dM_finish_37 ?_
      refine w_iload (pc := 38) (q := 4) G dM_finish_38 rfl ?_
      refine w_iadd (pc := 40) G dM_finish_40 ?_
      obtain ⟨i41, h⟩ := gd_some h
      refine w_lald (pc := 41) (n := 16) (f := x_row) G 2 (by decide) lk_row i41 dM_finish_41 ?_
      refine w_lmul (pc := 42) G dM_finish_42 ?_
      refine w_ladd (pc := 43) G dM_finish_43 ?_
      refine w_lstore_n (pc := 44) (lv' := [(2, .long (v2 + ((x_row (((4 : Int32) * v1) + v6).toNatClampNeg) * (x_row (((4 : Int32) * v1) + v6).toNatClampNeg)))), (0, .ref (κ.1 0)), (1, .int v1), (4, .long v4), (6, .int v6)]) G dM_finish_44 rfl (by decide) rfl ?_
      refine w_lload (pc := 45) (q := 3) G dM_finish_45 rfl ?_
      refine w_aload_n (pc := 47) (q := 1) G dM_finish_47 rfl rfl ?_
      refine w_get (pc := 48) (v := .ref (κ.1 2)) (fs := fl_M κ (x_many, x_generator, x_known, x_without, x_rows, x_row, x_pivot, x_fresh, x_multiple, x_last, x_made, x_settled, x_point, x_limit, x_mode, x_counted, x_listed, x_held, x_first, x_squares, x_wanted, x_spanned, x_span, x_minima, x_measured, x_found, x_any)) G 0 (by decide) lb_M rfl wsM_ok 5 (by decide) wd495 gf_M_5 dM_finish_48 ?_
      refine w_iconst (pc := 51) (v := (4 : Int32)) G dM_finish_51 (by decide) ?_
      refine w_iload_n (pc := 52) (q := 2) G dM_finish_52 rfl rfl ?_
      refine w_imul (pc := 53) G dM_finish_53 ?_
      refine w_iload (pc := 54) (q := 4) G dM_finish_54 rfl ?_
      refine w_iadd (pc := 56) G dM_finish_56 ?_
      obtain ⟨i57, h⟩ := gd_some h
      refine w_lald (pc := 57) (n := 16) (f := x_row) G 2 (by decide) lk_row i57 dM_finish_57 ?_
      refine w_aload_n (pc := 58) (q := 1) G dM_finish_58 rfl rfl ?_
      refine w_get (pc := 59) (v := .ref (κ.1 9)) (fs := fl_M κ (x_many, x_generator, x_known, x_without, x_rows, x_row, x_pivot, x_fresh, x_multiple, x_last, x_made, x_settled, x_point, x_limit, x_mode, x_counted, x_listed, x_held, x_first, x_squares, x_wanted, x_spanned, x_span, x_minima, x_measured, x_found, x_any)) G 0 (by decide) lb_M rfl wsM_ok 12 (by decide) wd502 gf_M_12 dM_finish_59 ?_
      refine w_iload (pc := 62) (q := 4) G dM_finish_62 rfl ?_
      obtain ⟨i64, h⟩ := gd_some h
      refine w_lald (pc := 64) (n := 4) (f := x_point) G 9 (by decide) lk_point i64 dM_finish_64 ?_
      refine w_aload_n (pc := 65) (q := 1) G dM_finish_65 rfl rfl ?_
      refine w_get (pc := 66) (v := .ref (κ.1 7)) (fs := fl_M κ (x_many, x_generator, x_known, x_without, x_rows, x_row, x_pivot, x_fresh, x_multiple, x_last, x_made, x_settled, x_point, x_limit, x_mode, x_counted, x_listed, x_held, x_first, x_squares, x_wanted, x_spanned, x_span, x_minima, x_measured, x_found, x_any)) G 0 (by decide) lb_M rfl wsM_ok 10 (by decide) wd500 gf_M_10 dM_finish_66 ?_
      refine w_iconst (pc := 69) (v := (4 : Int32)) G dM_finish_69 (by decide) ?_
      refine w_iload_n (pc := 70) (q := 2) G dM_finish_70 rfl rfl ?_
      refine w_imul (pc := 71) G dM_finish_71 ?_
      refine w_iload (pc := 72) (q := 4) G dM_finish_72 rfl ?_
      refine w_iadd (pc := 74) G dM_finish_74 ?_
      obtain ⟨i75, h⟩ := gd_some h
      refine w_lald (pc := 75) (n := 20) (f := x_made) G 7 (by decide) lk_made i75 dM_finish_75 ?_
      refine w_lsub (pc := 76) G dM_finish_76 ?_
      refine w_lmul (pc := 77) G dM_finish_77 ?_
      refine w_ladd (pc := 78) G dM_finish_78 ?_
      refine w_lstore (pc := 79) (lv' := [(4, .long (v4 + ((x_row (((4 : Int32) * v1) + v6).toNatClampNeg) * ((x_point v6.toNatClampNeg) - (x_made (((4 : Int32) * v1) + v6).toNatClampNeg))))), (2, .long (v2 + ((x_row (((4 : Int32) * v1) + v6).toNatClampNeg) * (x_row (((4 : Int32) * v1) + v6).toNatClampNeg)))), (0, .ref (κ.1 0)), (1, .int v1), (6, .int v6)]) G dM_finish_79 (by decide) rfl ?_
      refine w_iinc (pc := 81) (q0 := 4) (v := (v6 + 1)) (lv' := [(6, .int (v6 + 1)), (4, .long (v4 + ((x_row (((4 : Int32) * v1) + v6).toNatClampNeg) * ((x_point v6.toNatClampNeg) - (x_made (((4 : Int32) * v1) + v6).toNatClampNeg))))), (2, .long (v2 + ((x_row (((4 : Int32) * v1) + v6).toNatClampNeg) * (x_row (((4 : Int32) * v1) + v6).toNatClampNeg)))), (0, .ref (κ.1 0)), (1, .int v1)]) G dM_finish_81 rfl rfl (by decide) rfl ?_
      refine w_goto (pc := 84) (tgt := 13) G dM_finish_84 (by decide) ?_
      refine w_sub (lv' := [(0, .ref (κ.1 0)), (1, .int v1), (2, .long (v2 + ((x_row (((4 : Int32) * v1) + v6).toNatClampNeg) * (x_row (((4 : Int32) * v1) + v6).toNatClampNeg)))), (4, .long (v4 + ((x_row (((4 : Int32) * v1) + v6).toNatClampNeg) * ((x_point v6.toNatClampNeg) - (x_made (((4 : Int32) * v1) + v6).toNatClampNeg))))), (6, .int (v6 + 1))]) [3, 4, 2, 1, 0] rfl ?_
      exact ih (v2 + ((x_row (((4 : Int32) * v1) + v6).toNatClampNeg) * (x_row (((4 : Int32) * v1) + v6).toNatClampNeg))) (v4 + ((x_row (((4 : Int32) * v1) + v6).toNatClampNeg) * ((x_point v6.toNatClampNeg) - (x_made (((4 : Int32) * v1) + v6).toNatClampNeg)))) (v6 + 1) out h K
noncomputable def M_finish (F : Nat) (x_rows : Int32) (x_row : Nat → Int64) (x_pivot : Nat → Int32) (x_fresh : Nat → Int64) (x_multiple : Nat → Int64) (x_made : Nat → Int64) (x_settled : Nat → Int64) (x_point : Nat → Int64) (x_limit : Int64) (x_mode : Int32) (x_counted : Int32) (x_held : Int32) (x_first : Nat → Int64) (x_squares : Nat → Int64) (x_wanted : Int32) (x_spanned : Int32) (x_span : Nat → Int64) (x_found : Nat → Int64) (x_any : Int32) (v1 : Int32) : Option ((Nat → Int64) × (Nat → Int64) × (Nat → Int64) × (Nat → Int64) × Int64 × Int32 × Int32 × (Nat → Int64) × (Nat → Int64) × Int32 × (Nat → Int64) × (Nat → Int64) × Int32) := gd (vp_in v1 5) ((lM_finish_13 F x_row x_made x_point v1 F (0 : Int64) (0 : Int64) (x_pivot v1.toNatClampNeg)).bind (fun o13_7 => (M_under F  (((2 : Int64) * o13_7.2) + o13_7.1) ((2 : Int64) * o13_7.1)).bind (fun r100 => (M_along F x_rows x_row x_pivot x_fresh x_multiple x_made x_settled x_point x_limit x_mode x_counted x_held x_first x_squares x_wanted x_spanned x_span x_found x_any v1 r100 (1 : Int64)).bind (fun r110 => (M_along F x_rows x_row x_pivot r110.1 r110.2.1 r110.2.2.1 r110.2.2.2.1 x_point r110.2.2.2.2.1 x_mode r110.2.2.2.2.2.1 r110.2.2.2.2.2.2.1 r110.2.2.2.2.2.2.2.1 r110.2.2.2.2.2.2.2.2.1 x_wanted r110.2.2.2.2.2.2.2.2.2.1 r110.2.2.2.2.2.2.2.2.2.2.1 r110.2.2.2.2.2.2.2.2.2.2.2.1 r110.2.2.2.2.2.2.2.2.2.2.2.2 v1 (r100 - (1 : Int64)) (-1 : Int64)).bind (fun r122 => some (r122.1, r122.2.1, r122.2.2.1, r122.2.2.2.1, r122.2.2.2.2.1, r122.2.2.2.2.2.1, r122.2.2.2.2.2.2.1, r122.2.2.2.2.2.2.2.1, r122.2.2.2.2.2.2.2.2.1, r122.2.2.2.2.2.2.2.2.2.1, r122.2.2.2.2.2.2.2.2.2.2.1, r122.2.2.2.2.2.2.2.2.2.2.2.1, r122.2.2.2.2.2.2.2.2.2.2.2.2))))))
set_option maxHeartbeats 8000000 in
set_option maxRecDepth 100000 in
theorem met_M_finish (κ : ctx) (X : Nat → va_E) (F : Nat) {x_many : Int32} {x_generator : Nat → Int32} {x_known : Int32} {x_without : Int32} {x_rows : Int32} {x_row : Nat → Int64} {x_pivot : Nat → Int32} {x_fresh : Nat → Int64} {x_multiple : Nat → Int64} {x_last : Nat → Int64} {x_made : Nat → Int64} {x_settled : Nat → Int64} {x_point : Nat → Int64} {x_limit : Int64} {x_mode : Int32} {x_counted : Int32} {x_listed : Int32} {x_held : Int32} {x_first : Nat → Int64} {x_squares : Nat → Int64} {x_wanted : Int32} {x_spanned : Int32} {x_span : Nat → Int64} {x_minima : Nat → Int32} {x_measured : Int32} {x_found : Nat → Int64} {x_any : Int32} (v1 : Int32) {out : (Nat → Int64) × (Nat → Int64) × (Nat → Int64) × (Nat → Int64) × Int64 × Int32 × Int32 × (Nat → Int64) × (Nat → Int64) × Int32 × (Nat → Int64) × (Nat → Int64) × Int32} (h : M_finish F x_rows x_row x_pivot x_fresh x_multiple x_made x_settled x_point x_limit x_mode x_counted x_held x_first x_squares x_wanted x_spanned x_span x_found x_any v1 = some out) : Mt yM_finish cM_finish 8 none rm_M_finish κ [.ref (κ.1 0), .int v1] (LM κ (x_many, x_generator, x_known, x_without, x_rows, x_row, x_pivot, x_fresh, x_multiple, x_last, x_made, x_settled, x_point, x_limit, x_mode, x_counted, x_listed, x_held, x_first, x_squares, x_wanted, x_spanned, x_span, x_minima, x_measured, x_found, x_any) X) none (LM κ (x_many, x_generator, x_known, x_without, x_rows, x_row, x_pivot, out.1, out.2.1, x_last, out.2.2.1, out.2.2.2.1, x_point, out.2.2.2.2.1, x_mode, out.2.2.2.2.2.1, x_listed, out.2.2.2.2.2.2.1, out.2.2.2.2.2.2.2.1, out.2.2.2.2.2.2.2.2.1, x_wanted, out.2.2.2.2.2.2.2.2.2.1, out.2.2.2.2.2.2.2.2.2.2.1, x_minima, x_measured, out.2.2.2.2.2.2.2.2.2.2.2.1, out.2.2.2.2.2.2.2.2.2.2.2.2) X) := by
  refine Mt.of (by decide) (Nat.le_of_ble_eq_true rfl) ?_
  intro g G Fh
  unfold M_finish at h
  show J g κ 8 0 [(0, .ref (κ.1 0)), (1, .int v1)] [] (LM κ (x_many, x_generator, x_known, x_without, x_rows, x_row, x_pivot, x_fresh, x_multiple, x_last, x_made, x_settled, x_point, x_limit, x_mode, x_counted, x_listed, x_held, x_first, x_squares, x_wanted, x_spanned, x_span, x_minima, x_measured, x_found, x_any) X)
  refine w_lconst (pc := 0) (v := (0 : Int64)) G dM_finish_0 (by decide) ?_
  refine w_lstore_n (pc := 1) (lv' := [(2, .long (0 : Int64)), (0, .ref (κ.1 0)), (1, .int v1)]) G dM_finish_1 rfl (by decide) rfl ?_
  refine w_lconst (pc := 2) (v := (0 : Int64)) G dM_finish_2 (by decide) ?_
  refine w_lstore (pc := 3) (lv' := [(4, .long (0 : Int64)), (2, .long (0 : Int64)), (0, .ref (κ.1 0)), (1, .int v1)]) G dM_finish_3 (by decide) rfl ?_
  refine w_aload_n (pc := 5) (q := 2) G dM_finish_5 rfl rfl ?_
  refine w_get (pc := 6) (v := .ref (κ.1 3)) (fs := fl_M κ (x_many, x_generator, x_known, x_without, x_rows, x_row, x_pivot, x_fresh, x_multiple, x_last, x_made, x_settled, x_point, x_limit, x_mode, x_counted, x_listed, x_held, x_first, x_squares, x_wanted, x_spanned, x_span, x_minima, x_measured, x_found, x_any)) G 0 (by decide) lb_M rfl wsM_ok 6 (by decide) wd496 gf_M_6 dM_finish_6 ?_
  refine w_iload_n (pc := 9) (q := 3) G dM_finish_9 rfl rfl ?_
  obtain ⟨i10, h⟩ := gd_some h
  refine w_iald (pc := 10) (n := 5) (f := x_pivot) G 3 (by decide) lk_pivot i10 dM_finish_10 ?_
  refine w_istore (pc := 11) (lv' := [(6, .int (x_pivot v1.toNatClampNeg)), (4, .long (0 : Int64)), (2, .long (0 : Int64)), (0, .ref (κ.1 0)), (1, .int v1)]) G dM_finish_11 (by decide) rfl ?_
  refine w_sub (lv' := [(0, .ref (κ.1 0)), (1, .int v1), (2, .long (0 : Int64)), (4, .long (0 : Int64)), (6, .int (x_pivot v1.toNatClampNeg))]) [3, 4, 2, 1, 0] rfl ?_
  obtain ⟨o13_7, eo13_7, h⟩ := bd h
  refine lM_finish_13_ok G X F v1 F (0 : Int64) (0 : Int64) (x_pivot v1.toNatClampNeg) o13_7 eo13_7 ?_
  refine w_ldc2 (pc := 87) (v := (2 : Int64)) G wd710 dM_finish_87 ?_
  refine w_lload (pc := 90) (q := 3) G dM_finish_90 rfl ?_
  refine w_lmul (pc := 92) G dM_finish_92 ?_
  refine w_lload_n (pc := 93) (q := 2) G dM_finish_93 rfl rfl ?_
  refine w_ladd (pc := 94) G dM_finish_94 ?_
  refine w_ldc2 (pc := 95) (v := (2 : Int64)) G wd710 dM_finish_95 ?_
  refine w_lload_n (pc := 98) (q := 2) G dM_finish_98 rfl rfl ?_
  refine w_lmul (pc := 99) G dM_finish_99 ?_
  obtain ⟨r100, e100, h⟩ := bd h
  refine w_callS (pc := 100) (av := [.long (((2 : Int64) * o13_7.2) + o13_7.1), .long ((2 : Int64) * o13_7.1)]) (rest := []) (v := some (.long r100)) (L' := (LM κ (x_many, x_generator, x_known, x_without, x_rows, x_row, x_pivot, x_fresh, x_multiple, x_last, x_made, x_settled, x_point, x_limit, x_mode, x_counted, x_listed, x_held, x_first, x_squares, x_wanted, x_spanned, x_span, x_minima, x_measured, x_found, x_any) X)) G cb_M_under_M_finish wd612 wd611 (met_M_under κ (LM κ (x_many, x_generator, x_known, x_without, x_rows, x_row, x_pivot, x_fresh, x_multiple, x_last, x_made, x_settled, x_point, x_limit, x_mode, x_counted, x_listed, x_held, x_first, x_squares, x_wanted, x_spanned, x_span, x_minima, x_measured, x_found, x_any) X) F (((2 : Int64) * o13_7.2) + o13_7.1) ((2 : Int64) * o13_7.1)  e100) rfl rfl rfl (Nat.le_of_ble_eq_true rfl) dM_finish_100 ?_
  refine w_lstore (pc := 103) (lv' := [(6, .long r100), (0, .ref (κ.1 0)), (1, .int v1), (2, .long o13_7.1), (4, .long o13_7.2)]) G dM_finish_103 (by decide) rfl ?_
  refine w_aload_n (pc := 105) (q := 1) G dM_finish_105 rfl rfl ?_
  refine w_iload_n (pc := 106) (q := 2) G dM_finish_106 rfl rfl ?_
  refine w_lload (pc := 107) (q := 0) G dM_finish_107 rfl ?_
  refine w_lconst (pc := 109) (v := (1 : Int64)) G dM_finish_109 (by decide) ?_
  obtain ⟨r110, e110, h⟩ := bd h
  refine w_callV (pc := 110) (av := [.int v1, .long r100, .long (1 : Int64)]) (rest := []) (v := none) (L' := (LM κ (x_many, x_generator, x_known, x_without, x_rows, x_row, x_pivot, r110.1, r110.2.1, x_last, r110.2.2.1, r110.2.2.2.1, x_point, r110.2.2.2.2.1, x_mode, r110.2.2.2.2.2.1, x_listed, r110.2.2.2.2.2.2.1, r110.2.2.2.2.2.2.2.1, r110.2.2.2.2.2.2.2.2.1, x_wanted, r110.2.2.2.2.2.2.2.2.2.1, r110.2.2.2.2.2.2.2.2.2.2.1, x_minima, x_measured, r110.2.2.2.2.2.2.2.2.2.2.2.1, r110.2.2.2.2.2.2.2.2.2.2.2.2) X)) (T := TM) (fs := fl_M κ (x_many, x_generator, x_known, x_without, x_rows, x_row, x_pivot, x_fresh, x_multiple, x_last, x_made, x_settled, x_point, x_limit, x_mode, x_counted, x_listed, x_held, x_first, x_squares, x_wanted, x_spanned, x_span, x_minima, x_measured, x_found, x_any)) G 0 0 27 (by decide) lb_M rfl cb_M_along_M_finish wd713 ws42 wd711 (met_M_along κ X F v1 r100 (1 : Int64)  e110) rfl rfl rfl (Nat.le_of_ble_eq_true rfl) dM_finish_110 ?_
  refine w_aload_n (pc := 113) (q := 1) G dM_finish_113 rfl rfl ?_
  refine w_iload_n (pc := 114) (q := 2) G dM_finish_114 rfl rfl ?_
  refine w_lload (pc := 115) (q := 0) G dM_finish_115 rfl ?_
  refine w_lconst (pc := 117) (v := (1 : Int64)) G dM_finish_117 (by decide) ?_
  refine w_lsub (pc := 118) G dM_finish_118 ?_
  refine w_ldc2 (pc := 119) (v := (-1 : Int64)) G wd661 dM_finish_119 ?_
  obtain ⟨r122, e122, h⟩ := bd h
  refine w_callV (pc := 122) (av := [.int v1, .long (r100 - (1 : Int64)), .long (-1 : Int64)]) (rest := []) (v := none) (L' := (LM κ (x_many, x_generator, x_known, x_without, x_rows, x_row, x_pivot, r122.1, r122.2.1, x_last, r122.2.2.1, r122.2.2.2.1, x_point, r122.2.2.2.2.1, x_mode, r122.2.2.2.2.2.1, x_listed, r122.2.2.2.2.2.2.1, r122.2.2.2.2.2.2.2.1, r122.2.2.2.2.2.2.2.2.1, x_wanted, r122.2.2.2.2.2.2.2.2.2.1, r122.2.2.2.2.2.2.2.2.2.2.1, x_minima, x_measured, r122.2.2.2.2.2.2.2.2.2.2.2.1, r122.2.2.2.2.2.2.2.2.2.2.2.2) X)) (T := TM) (fs := fl_M κ (x_many, x_generator, x_known, x_without, x_rows, x_row, x_pivot, r110.1, r110.2.1, x_last, r110.2.2.1, r110.2.2.2.1, x_point, r110.2.2.2.2.1, x_mode, r110.2.2.2.2.2.1, x_listed, r110.2.2.2.2.2.2.1, r110.2.2.2.2.2.2.2.1, r110.2.2.2.2.2.2.2.2.1, x_wanted, r110.2.2.2.2.2.2.2.2.2.1, r110.2.2.2.2.2.2.2.2.2.2.1, x_minima, x_measured, r110.2.2.2.2.2.2.2.2.2.2.2.1, r110.2.2.2.2.2.2.2.2.2.2.2.2)) G 0 0 27 (by decide) lb_M rfl cb_M_along_M_finish wd713 ws42 wd711 (met_M_along κ X F v1 (r100 - (1 : Int64)) (-1 : Int64)  e122) rfl rfl rfl (Nat.le_of_ble_eq_true rfl) dM_finish_122 ?_
  obtain rfl := Option.some.inj h
  exact w_vret (pc := 125) G dM_finish_125 Fh
