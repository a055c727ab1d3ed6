theorem og_congr {κ κ' : ctx} {b n : Nat} (h : ∀ k, b ≤ k → k < b + n → κ.1 k = κ'.1 k) : og κ b n = og κ' b n := funext fun i => by
  unfold og
  by_cases hi : i < n
  · rw [if_pos hi, if_pos hi, h (b + i) (by omega) (by omega)]
  · rw [if_neg hi, if_neg hi]
theorem gc_V {κ κ' : ctx} (h2 : κ.2 = κ'.2) (h : ∀ k, 15 ≤ k → k < 114 → κ.1 k = κ'.1 k) (x_added : Nat → Nat → Int64) (x_asked : Nat → Int64) (x_vHeld : Int32) (x_vRed : Int32) (x_vTal : Int32) (x_vLis : Int32) : g_V κ x_added x_asked x_vHeld x_vRed x_vTal x_vLis = g_V κ' x_added x_asked x_vHeld x_vRed x_vTal x_vLis := by
  obtain ⟨f, c⟩ := κ
  obtain ⟨f2, c2⟩ := κ'
  have h3 : c = c2 := h2
  subst h3
  unfold g_V
  rw [og_congr (κ := (f, c)) (κ' := (f2, c)) (b := 17) (n := 6) (fun k h4 h5 => h k (by omega) (by omega))]
  rw [h 16 (by omega) (by omega)]
  rw [h 23 (by omega) (by omega)]
  rw [h 24 (by omega) (by omega)]
  rw [h 31 (by omega) (by omega)]
  rw [h 38 (by omega) (by omega)]
  rw [h 63 (by omega) (by omega)]
  rw [h 66 (by omega) (by omega)]
  rw [h 111 (by omega) (by omega)]
  try rfl
theorem gc_E {κ κ' : ctx} (h2 : κ.2 = κ'.2) (h : ∀ k, 24 ≤ k → k < 31 → κ.1 k = κ'.1 k) (x_eR : Nat → Nat → Int64) (x_et : Nat → Int64) : g_E κ x_eR x_et = g_E κ' x_eR x_et := by
  obtain ⟨f, c⟩ := κ
  obtain ⟨f2, c2⟩ := κ'
  have h3 : c = c2 := h2
  subst h3
  unfold g_E
  rw [og_congr (κ := (f, c)) (κ' := (f2, c)) (b := 26) (n := 4) (fun k h4 h5 => h k (by omega) (by omega))]
  rw [h 25 (by omega) (by omega)]
  rw [h 30 (by omega) (by omega)]
  try rfl
theorem gc_O {κ κ' : ctx} (h2 : κ.2 = κ'.2) (h : ∀ k, 31 ≤ k → k < 38 → κ.1 k = κ'.1 k) (x_oR : Nat → Nat → Int64) (x_ot : Nat → Int64) : g_O κ x_oR x_ot = g_O κ' x_oR x_ot := by
  obtain ⟨f, c⟩ := κ
  obtain ⟨f2, c2⟩ := κ'
  have h3 : c = c2 := h2
  subst h3
  unfold g_O
  rw [og_congr (κ := (f, c)) (κ' := (f2, c)) (b := 33) (n := 4) (fun k h4 h5 => h k (by omega) (by omega))]
  rw [h 32 (by omega) (by omega)]
  rw [h 37 (by omega) (by omega)]
  try rfl
theorem gc_B {κ κ' : ctx} (h2 : κ.2 = κ'.2) (h : ∀ k, 38 ≤ k → k < 63 → κ.1 k = κ'.1 k) (x_bR : Nat → Nat → Int64) (x_bD : Nat → Nat → Int64) (x_bQ : Nat → Int64) (x_bW : Nat → Int64) (x_bS : Nat → Nat → Int64) (x_bM : Nat → Nat → Int64) (x_bT : Nat → Int64) (x_bn : Int32) : g_B κ x_bR x_bD x_bQ x_bW x_bS x_bM x_bT x_bn = g_B κ' x_bR x_bD x_bQ x_bW x_bS x_bM x_bT x_bn := by
  obtain ⟨f, c⟩ := κ
  obtain ⟨f2, c2⟩ := κ'
  have h3 : c = c2 := h2
  subst h3
  unfold g_B
  rw [og_congr (κ := (f, c)) (κ' := (f2, c)) (b := 40) (n := 4) (fun k h4 h5 => h k (by omega) (by omega))]
  rw [og_congr (κ := (f, c)) (κ' := (f2, c)) (b := 45) (n := 4) (fun k h4 h5 => h k (by omega) (by omega))]
  rw [og_congr (κ := (f, c)) (κ' := (f2, c)) (b := 52) (n := 5) (fun k h4 h5 => h k (by omega) (by omega))]
  rw [og_congr (κ := (f, c)) (κ' := (f2, c)) (b := 58) (n := 4) (fun k h4 h5 => h k (by omega) (by omega))]
  rw [h 39 (by omega) (by omega)]
  rw [h 44 (by omega) (by omega)]
  rw [h 49 (by omega) (by omega)]
  rw [h 50 (by omega) (by omega)]
  rw [h 51 (by omega) (by omega)]
  rw [h 57 (by omega) (by omega)]
  rw [h 62 (by omega) (by omega)]
  try rfl
theorem gc_T {κ κ' : ctx} (h2 : κ.2 = κ'.2) (h : ∀ k, 63 ≤ k → k < 66 → κ.1 k = κ'.1 k) (x_tg : Nat → Int64) (x_tb : Int64) (x_ts : Nat → Int32) : g_T κ x_tg x_tb x_ts = g_T κ' x_tg x_tb x_ts := by
  obtain ⟨f, c⟩ := κ
  obtain ⟨f2, c2⟩ := κ'
  have h3 : c = c2 := h2
  subst h3
  unfold g_T
  rw [h 64 (by omega) (by omega)]
  rw [h 65 (by omega) (by omega)]
  try rfl
theorem gc_F {κ κ' : ctx} (h2 : κ.2 = κ'.2) (h : ∀ k, 66 ≤ k → k < 111 → κ.1 k = κ'.1 k) (x_fg : Nat → Int64) (x_fb : Int64) (x_fV : Nat → Nat → Int64) (x_fS : Nat → Int64) (x_fn : Int32) : g_F κ x_fg x_fb x_fV x_fS x_fn = g_F κ' x_fg x_fb x_fV x_fS x_fn := by
  obtain ⟨f, c⟩ := κ
  obtain ⟨f2, c2⟩ := κ'
  have h3 : c = c2 := h2
  subst h3
  unfold g_F
  rw [og_congr (κ := (f, c)) (κ' := (f2, c)) (b := 69) (n := 41) (fun k h4 h5 => h k (by omega) (by omega))]
  rw [h 67 (by omega) (by omega)]
  rw [h 68 (by omega) (by omega)]
  rw [h 110 (by omega) (by omega)]
  try rfl
theorem gc_C {κ κ' : ctx} (h2 : κ.2 = κ'.2) (h : ∀ k, 111 ≤ k → k < 114 → κ.1 k = κ'.1 k) (x_cg : Nat → Int64) (x_cb : Int64) (x_cB : Nat → Int64) (x_cq : Int64) : g_C κ x_cg x_cb x_cB x_cq = g_C κ' x_cg x_cb x_cB x_cq := by
  obtain ⟨f, c⟩ := κ
  obtain ⟨f2, c2⟩ := κ'
  have h3 : c = c2 := h2
  subst h3
  unfold g_C
  rw [h 112 (by omega) (by omega)]
  rw [h 113 (by omega) (by omega)]
  try rfl
theorem gEO {κ : ctx} {h : Nat → Nat} {x : Nat → Nat → Int64} {y : Nat → Int64} : g_E (kh 24 h κ) x y = g_O (kh 31 h κ) x y := by
  have e : og (kh 24 h κ) 26 4 = og (kh 31 h κ) 33 4 := funext fun i => by
    show (if i < 4 then some (h (26 + i - 24)) else none) = (if i < 4 then some (h (33 + i - 31)) else none)
    rw [show 26 + i - 24 = 2 + i by omega, show 33 + i - 31 = 2 + i by omega]
  unfold g_E g_O
  rw [e]
  rfl
def σ0 : CS := ((fun _ _ => 0), (fun _ => 0), (fun _ _ => 0), (fun _ => 0), (fun _ _ => 0), (fun _ => 0), (fun _ _ => 0), (fun _ _ => 0), (fun _ => 0), (fun _ => 0), (fun _ _ => 0), (fun _ _ => 0), (fun _ => 0), 0, (fun _ => 0), 0, (fun _ => 0), (fun _ => 0), 0, (fun _ _ => 0), (fun _ => 0), 0, (fun _ => 0), 0, (fun _ => 0), 0, 0, 0, 0, 0)
def τ0 : MS := (0, (fun _ => 0), 0, 0, 0, (fun _ => 0), (fun _ => 0), (fun _ => 0), (fun _ => 0), (fun _ => 0), (fun _ => 0), (fun _ => 0), (fun _ => 0), 0, 0, 0, 0, 0, (fun _ => 0), (fun _ => 0), 0, 0, (fun _ => 0), (fun _ => 0), 0, (fun _ => 0), 0)
theorem dn_M_init_0 : decode cM_init 0 = .ok (.aload_n 0, 1) := by decide +kernel
theorem dn_M_init_1 : decode cM_init 1 = .ok (.invokespecial 1, 3) := by decide +kernel
theorem dn_M_init_4 : decode cM_init 4 = .ok (.aload_n 0, 1) := by decide +kernel
theorem dn_M_init_5 : decode cM_init 5 = .ok (.bipush 24, 2) := by decide +kernel
theorem dn_M_init_7 : decode cM_init 7 = .ok (.newarray .int, 2) := by decide +kernel
theorem dn_M_init_9 : decode cM_init 9 = .ok (.putfield 7, 3) := by decide +kernel
theorem dn_M_init_12 : decode cM_init 12 = .ok (.aload_n 0, 1) := by decide +kernel
theorem dn_M_init_13 : decode cM_init 13 = .ok (.bipush 16, 2) := by decide +kernel
theorem dn_M_init_15 : decode cM_init 15 = .ok (.newarray .long, 2) := by decide +kernel
theorem dn_M_init_17 : decode cM_init 17 = .ok (.putfield 13, 3) := by decide +kernel
theorem dn_M_init_20 : decode cM_init 20 = .ok (.aload_n 0, 1) := by decide +kernel
theorem dn_M_init_21 : decode cM_init 21 = .ok (.iconst 5, 1) := by decide +kernel
theorem dn_M_init_22 : decode cM_init 22 = .ok (.newarray .int, 2) := by decide +kernel
theorem dn_M_init_24 : decode cM_init 24 = .ok (.putfield 17, 3) := by decide +kernel
theorem dn_M_init_27 : decode cM_init 27 = .ok (.aload_n 0, 1) := by decide +kernel
theorem dn_M_init_28 : decode cM_init 28 = .ok (.iconst 4, 1) := by decide +kernel
theorem dn_M_init_29 : decode cM_init 29 = .ok (.newarray .long, 2) := by decide +kernel
theorem dn_M_init_31 : decode cM_init 31 = .ok (.putfield 20, 3) := by decide +kernel
theorem dn_M_init_34 : decode cM_init 34 = .ok (.aload_n 0, 1) := by decide +kernel
theorem dn_M_init_35 : decode cM_init 35 = .ok (.iconst 4, 1) := by decide +kernel
theorem dn_M_init_36 : decode cM_init 36 = .ok (.newarray .long, 2) := by decide +kernel
theorem dn_M_init_38 : decode cM_init 38 = .ok (.putfield 23, 3) := by decide +kernel
theorem dn_M_init_41 : decode cM_init 41 = .ok (.aload_n 0, 1) := by decide +kernel
theorem dn_M_init_42 : decode cM_init 42 = .ok (.iconst 4, 1) := by decide +kernel
theorem dn_M_init_43 : decode cM_init 43 = .ok (.newarray .long, 2) := by decide +kernel
theorem dn_M_init_45 : decode cM_init 45 = .ok (.putfield 26, 3) := by decide +kernel
theorem dn_M_init_48 : decode cM_init 48 = .ok (.aload_n 0, 1) := by decide +kernel
theorem dn_M_init_49 : decode cM_init 49 = .ok (.bipush 20, 2) := by decide +kernel
theorem dn_M_init_51 : decode cM_init 51 = .ok (.newarray .long, 2) := by decide +kernel
theorem dn_M_init_53 : decode cM_init 53 = .ok (.putfield 29, 3) := by decide +kernel
theorem dn_M_init_56 : decode cM_init 56 = .ok (.aload_n 0, 1) := by decide +kernel
theorem dn_M_init_57 : decode cM_init 57 = .ok (.iconst 5, 1) := by decide +kernel
theorem dn_M_init_58 : decode cM_init 58 = .ok (.newarray .long, 2) := by decide +kernel
theorem dn_M_init_60 : decode cM_init 60 = .ok (.putfield 32, 3) := by decide +kernel
theorem dn_M_init_63 : decode cM_init 63 = .ok (.aload_n 0, 1) := by decide +kernel
theorem dn_M_init_64 : decode cM_init 64 = .ok (.iconst 4, 1) := by decide +kernel
theorem dn_M_init_65 : decode cM_init 65 = .ok (.newarray .long, 2) := by decide +kernel
theorem dn_M_init_67 : decode cM_init 67 = .ok (.putfield 35, 3) := by decide +kernel
theorem dn_M_init_70 : decode cM_init 70 = .ok (.aload_n 0, 1) := by decide +kernel
theorem dn_M_init_71 : decode cM_init 71 = .ok (.sipush 164, 3) := by decide +kernel
theorem dn_M_init_74 : decode cM_init 74 = .ok (.newarray .long, 2) := by decide +kernel
theorem dn_M_init_76 : decode cM_init 76 = .ok (.putfield 38, 3) := by decide +kernel
theorem dn_M_init_79 : decode cM_init 79 = .ok (.aload_n 0, 1) := by decide +kernel
theorem dn_M_init_80 : decode cM_init 80 = .ok (.bipush 41, 2) := by decide +kernel
theorem dn_M_init_82 : decode cM_init 82 = .ok (.newarray .long, 2) := by decide +kernel
theorem dn_M_init_84 : decode cM_init 84 = .ok (.putfield 41, 3) := by decide +kernel
theorem dn_M_init_87 : decode cM_init 87 = .ok (.aload_n 0, 1) := by decide +kernel
theorem dn_M_init_88 : decode cM_init 88 = .ok (.bipush 16, 2) := by decide +kernel
theorem dn_M_init_90 : decode cM_init 90 = .ok (.newarray .long, 2) := by decide +kernel
theorem dn_M_init_92 : decode cM_init 92 = .ok (.putfield 44, 3) := by decide +kernel
theorem dn_M_init_95 : decode cM_init 95 = .ok (.aload_n 0, 1) := by decide +kernel
theorem dn_M_init_96 : decode cM_init 96 = .ok (.iconst 5, 1) := by decide +kernel
theorem dn_M_init_97 : decode cM_init 97 = .ok (.newarray .int, 2) := by decide +kernel
theorem dn_M_init_99 : decode cM_init 99 = .ok (.putfield 47, 3) := by decide +kernel
theorem dn_M_init_102 : decode cM_init 102 = .ok (.aload_n 0, 1) := by decide +kernel
theorem dn_M_init_103 : decode cM_init 103 = .ok (.iconst 4, 1) := by decide +kernel
theorem dn_M_init_104 : decode cM_init 104 = .ok (.newarray .long, 2) := by decide +kernel
theorem dn_M_init_106 : decode cM_init 106 = .ok (.putfield 50, 3) := by decide +kernel
theorem dn_M_init_109 : decode cM_init 109 = .ok (.return_, 1) := by decide +kernel
set_option maxHeartbeats 4000000 in
set_option maxRecDepth 100000 in
theorem mn_M_init (κ : ctx) (h0 : Nat) : MtN yM_init cM_init 1 ({ frames := 2, cells := 14, slots := 316, locals := 60 }) κ h0 (.inr (0, [.int 0, .null, .int 0, .int 0, .int 0, .null, .null, .null, .null, .null, .null, .null, .null, .long 0, .int 0, .int 0, .int 0, .int 0, .null, .null, .int 0, .int 0, .null, .null, .int 0, .null, .int 0])) 14 316 (fun ws => ∃ h, h 0 = h0 ∧ ws = wn 15 h (LM (kh 0 h κ) τ0 (fun _ => .inr (0, [])))) := by
  intro l D sz
  refine Met.ofW (cc := cM_init) (maxL := 1) (ret := none) (by decide) rfl ?_
  intro p e s m args below meth c s₁ B hml hv
  obtain ⟨rfl, hsz, hP, hK, hNS, hO, hD0⟩ := hv
  have hx := B.exec
  have hb := B.bytes
  have hr := B.returns
  have hts0 := atoms_spec (ws := uw yM_init cM_init 1 none) B.pre
  have hts : ∀ w ∈ utbl, w.before #[Value.ref h0] s = true := fun w hw => hts0 w (List.mem_cons_of_mem _ hw)
  have hown : s.vm.findClass "ShortVectorsModel" = some m.cls := findClass_of_methodNamed B.named
  have hlocks := B.notSynchronized
  have hin : meth.name = "<init>" := (name_of_methodNamed B.named B.method).1
  subst hsz
  have hD := hD0.self (sz := s.heap.size)
  generalize hAe : va_A [(h0, .inr (0, [.int 0, .null, .int 0, .int 0, .int 0, .null, .null, .null, .null, .null, .null, .null, .null, .long 0, .int 0, .int 0, .int 0, .int 0, .null, .null, .int 0, .int 0, .null, .null, .int 0, .null, .int 0]))] s.heap.size = A at hD ⊢
  have hA : ∀ q : Nat, s.heap.size ≤ q → A q := fun q h => by rw [← hAe]; exact Or.inr h
  have hS : va_S A s.heap s.heap [] := va_S.rf
  have hl := lv_entry ([.ref h0]) (n := 1) (Nat.le_of_ble_eq_true rfl)
  rw [lg_entry_eq]
  generalize (lg_sl ([.ref h0]) ++ List.replicate (1 - (lg_sl ([.ref h0])).length) Slot.unset).toArray = ls at hl ⊢
  have hl : lv_has ls 1 [(0, .ref h0)] := hl
  refine lv_aload_n hx hb dn_M_init_0 rfl (lv_at hl 0 rfl) ?_
  refine W.objInit hx hb hown (hts _ wd489) (hts _ wd18) (hts _ wd19) rfl (by rw [hml]; exact hl.1) rfl dn_M_init_1 (Nat.le_of_ble_eq_true rfl) (Nat.le_of_ble_eq_true rfl) ?_
  refine W.eq (g2 := F0 m 4 ls []) rfl ?_
  refine lv_aload_n hx hb dn_M_init_4 rfl (lv_at hl 0 rfl) ?_
  refine lv_bipush (v := 24) hx hb dn_M_init_5 (by decide) ?_
  refine n_newI hx hb (hts _ wd88) hK hP hD hS hA 24 (by decide) (by decide) (by decide) (Nat.le_of_ble_eq_true rfl) (Nat.le_of_ble_eq_true rfl) dn_M_init_7 (fun q1 H hP hD hS => ?_)
  obtain ⟨w1, hw1⟩ : ∃ w : va_W, w = [] ++ [(q1, .inl (κ.2.1, zi 24))] := ⟨_, rfl⟩
  have hP : va_P D classes ((h0, .inr (0, [.int 0, .null, .int 0, .int 0, .int 0, .null, .null, .null, .null, .null, .null, .null, .null, .long 0, .int 0, .int 0, .int 0, .int 0, .null, .null, .int 0, .int 0, .null, .null, .int 0, .null, .int 0])) :: w1) H := by rw [hw1]; exact hP
  have hD : va_D A ((h0, .inr (0, [.int 0, .null, .int 0, .int 0, .int 0, .null, .null, .null, .null, .null, .null, .null, .null, .long 0, .int 0, .int 0, .int 0, .int 0, .null, .null, .int 0, .int 0, .null, .null, .int 0, .null, .int 0])) :: w1) := by rw [hw1]; exact hD
  refine va_putF (D := D) (ci := 0) (v := .ref q1) (ty := tyM 1) (C := RM) (T := TM) (N := 27) hx hb hts wsM_ok tyM tyM_ok nmM hown hK hP hD hS 0 rfl rfl 1 (by decide) (hts _ wd491) (fun _ h9 => h9) rfl hin rfl (tyM_ok 1 (by decide)) rfl rfl (Nat.le_of_ble_eq_true rfl) dn_M_init_9 (fun H locs hP hD hS => ?_)
  have hP : va_P D classes ((h0, .inr (0, [.int 0, .ref q1, .int 0, .int 0, .int 0, .null, .null, .null, .null, .null, .null, .null, .null, .long 0, .int 0, .int 0, .int 0, .int 0, .null, .null, .int 0, .int 0, .null, .null, .int 0, .null, .int 0])) :: w1) H := hP
  have hD : va_D A ((h0, .inr (0, [.int 0, .ref q1, .int 0, .int 0, .int 0, .null, .null, .null, .null, .null, .null, .null, .null, .long 0, .int 0, .int 0, .int 0, .int 0, .null, .null, .int 0, .int 0, .null, .null, .int 0, .null, .int 0])) :: w1) := hD
  refine lv_aload_n hx hb dn_M_init_12 rfl (lv_at hl 0 rfl) ?_
  refine lv_bipush (v := 16) hx hb dn_M_init_13 (by decide) ?_
  refine n_newL hx hb (hts _ wd36) hK hP hD hS hA 16 (by decide) (by decide) (by decide) (Nat.le_of_ble_eq_true rfl) (Nat.le_of_ble_eq_true rfl) dn_M_init_15 (fun q2 H hP hD hS => ?_)
  obtain ⟨w2, hw2⟩ : ∃ w : va_W, w = w1 ++ [(q2, .inl (κ.2.2.1, zl 16))] := ⟨_, rfl⟩
  have hP : va_P D classes ((h0, .inr (0, [.int 0, .ref q1, .int 0, .int 0, .int 0, .null, .null, .null, .null, .null, .null, .null, .null, .long 0, .int 0, .int 0, .int 0, .int 0, .null, .null, .int 0, .int 0, .null, .null, .int 0, .null, .int 0])) :: w2) H := by rw [hw2]; exact hP
  have hD : va_D A ((h0, .inr (0, [.int 0, .ref q1, .int 0, .int 0, .int 0, .null, .null, .null, .null, .null, .null, .null, .null, .long 0, .int 0, .int 0, .int 0, .int 0, .null, .null, .int 0, .int 0, .null, .null, .int 0, .null, .int 0])) :: w2) := by rw [hw2]; exact hD
  refine va_putF (D := D) (ci := 0) (v := .ref q2) (ty := tyM 5) (C := RM) (T := TM) (N := 27) hx hb hts wsM_ok tyM tyM_ok nmM hown hK hP hD hS 0 rfl rfl 5 (by decide) (hts _ wd495) (fun _ h9 => h9) rfl hin rfl (tyM_ok 5 (by decide)) rfl rfl (Nat.le_of_ble_eq_true rfl) dn_M_init_17 (fun H locs hP hD hS => ?_)
  have hP : va_P D classes ((h0, .inr (0, [.int 0, .ref q1, .int 0, .int 0, .int 0, .ref q2, .null, .null, .null, .null, .null, .null, .null, .long 0, .int 0, .int 0, .int 0, .int 0, .null, .null, .int 0, .int 0, .null, .null, .int 0, .null, .int 0])) :: w2) H := hP
  have hD : va_D A ((h0, .inr (0, [.int 0, .ref q1, .int 0, .int 0, .int 0, .ref q2, .null, .null, .null, .null, .null, .null, .null, .long 0, .int 0, .int 0, .int 0, .int 0, .null, .null, .int 0, .int 0, .null, .null, .int 0, .null, .int 0])) :: w2) := hD
  refine lv_aload_n hx hb dn_M_init_20 rfl (lv_at hl 0 rfl) ?_
  refine lv_iconst (v := 5) hx hb dn_M_init_21 (by decide) ?_
  refine n_newI hx hb (hts _ wd88) hK hP hD hS hA 5 (by decide) (by decide) (by decide) (Nat.le_of_ble_eq_true rfl) (Nat.le_of_ble_eq_true rfl) dn_M_init_22 (fun q3 H hP hD hS => ?_)
  obtain ⟨w3, hw3⟩ : ∃ w : va_W, w = w2 ++ [(q3, .inl (κ.2.1, zi 5))] := ⟨_, rfl⟩
  have hP : va_P D classes ((h0, .inr (0, [.int 0, .ref q1, .int 0, .int 0, .int 0, .ref q2, .null, .null, .null, .null, .null, .null, .null, .long 0, .int 0, .int 0, .int 0, .int 0, .null, .null, .int 0, .int 0, .null, .null, .int 0, .null, .int 0])) :: w3) H := by rw [hw3]; exact hP
  have hD : va_D A ((h0, .inr (0, [.int 0, .ref q1, .int 0, .int 0, .int 0, .ref q2, .null, .null, .null, .null, .null, .null, .null, .long 0, .int 0, .int 0, .int 0, .int 0, .null, .null, .int 0, .int 0, .null, .null, .int 0, .null, .int 0])) :: w3) := by rw [hw3]; exact hD
  refine va_putF (D := D) (ci := 0) (v := .ref q3) (ty := tyM 6) (C := RM) (T := TM) (N := 27) hx hb hts wsM_ok tyM tyM_ok nmM hown hK hP hD hS 0 rfl rfl 6 (by decide) (hts _ wd496) (fun _ h9 => h9) rfl hin rfl (tyM_ok 6 (by decide)) rfl rfl (Nat.le_of_ble_eq_true rfl) dn_M_init_24 (fun H locs hP hD hS => ?_)
  have hP : va_P D classes ((h0, .inr (0, [.int 0, .ref q1, .int 0, .int 0, .int 0, .ref q2, .ref q3, .null, .null, .null, .null, .null, .null, .long 0, .int 0, .int 0, .int 0, .int 0, .null, .null, .int 0, .int 0, .null, .null, .int 0, .null, .int 0])) :: w3) H := hP
  have hD : va_D A ((h0, .inr (0, [.int 0, .ref q1, .int 0, .int 0, .int 0, .ref q2, .ref q3, .null, .null, .null, .null, .null, .null, .long 0, .int 0, .int 0, .int 0, .int 0, .null, .null, .int 0, .int 0, .null, .null, .int 0, .null, .int 0])) :: w3) := hD
  refine lv_aload_n hx hb dn_M_init_27 rfl (lv_at hl 0 rfl) ?_
  refine lv_iconst (v := 4) hx hb dn_M_init_28 (by decide) ?_
  refine n_newL hx hb (hts _ wd36) hK hP hD hS hA 4 (by decide) (by decide) (by decide) (Nat.le_of_ble_eq_true rfl) (Nat.le_of_ble_eq_true rfl) dn_M_init_29 (fun q4 H hP hD hS => ?_)
  obtain ⟨w4, hw4⟩ : ∃ w : va_W, w = w3 ++ [(q4, .inl (κ.2.2.1, zl 4))] := ⟨_, rfl⟩
  have hP : va_P D classes ((h0, .inr (0, [.int 0, .ref q1, .int 0, .int 0, .int 0, .ref q2, .ref q3, .null, .null, .null, .null, .null, .null, .long 0, .int 0, .int 0, .int 0, .int 0, .null, .null, .int 0, .int 0, .null, .null, .int 0, .null, .int 0])) :: w4) H := by rw [hw4]; exact hP
  have hD : va_D A ((h0, .inr (0, [.int 0, .ref q1, .int 0, .int 0, .int 0, .ref q2, .ref q3, .null, .null, .null, .null, .null, .null, .long 0, .int 0, .int 0, .int 0, .int 0, .null, .null, .int 0, .int 0, .null, .null, .int 0, .null, .int 0])) :: w4) := by rw [hw4]; exact hD
  refine va_putF (D := D) (ci := 0) (v := .ref q4) (ty := tyM 7) (C := RM) (T := TM) (N := 27) hx hb hts wsM_ok tyM tyM_ok nmM hown hK hP hD hS 0 rfl rfl 7 (by decide) (hts _ wd497) (fun _ h9 => h9) rfl hin rfl (tyM_ok 7 (by decide)) rfl rfl (Nat.le_of_ble_eq_true rfl) dn_M_init_31 (fun H locs hP hD hS => ?_)
  have hP : va_P D classes ((h0, .inr (0, [.int 0, .ref q1, .int 0, .int 0, .int 0, .ref q2, .ref q3, .ref q4, .null, .null, .null, .null, .null, .long 0, .int 0, .int 0, .int 0, .int 0, .null, .null, .int 0, .int 0, .null, .null, .int 0, .null, .int 0])) :: w4) H := hP
  have hD : va_D A ((h0, .inr (0, [.int 0, .ref q1, .int 0, .int 0, .int 0, .ref q2, .ref q3, .ref q4, .null, .null, .null, .null, .null, .long 0, .int 0, .int 0, .int 0, .int 0, .null, .null, .int 0, .int 0, .null, .null, .int 0, .null, .int 0])) :: w4) := hD
  refine lv_aload_n hx hb dn_M_init_34 rfl (lv_at hl 0 rfl) ?_
  refine lv_iconst (v := 4) hx hb dn_M_init_35 (by decide) ?_
  refine n_newL hx hb (hts _ wd36) hK hP hD hS hA 4 (by decide) (by decide) (by decide) (Nat.le_of_ble_eq_true rfl) (Nat.le_of_ble_eq_true rfl) dn_M_init_36 (fun q5 H hP hD hS => ?_)
  obtain ⟨w5, hw5⟩ : ∃ w : va_W, w = w4 ++ [(q5, .inl (κ.2.2.1, zl 4))] := ⟨_, rfl⟩
  have hP : va_P D classes ((h0, .inr (0, [.int 0, .ref q1, .int 0, .int 0, .int 0, .ref q2, .ref q3, .ref q4, .null, .null, .null, .null, .null, .long 0, .int 0, .int 0, .int 0, .int 0, .null, .null, .int 0, .int 0, .null, .null, .int 0, .null, .int 0])) :: w5) H := by rw [hw5]; exact hP
  have hD : va_D A ((h0, .inr (0, [.int 0, .ref q1, .int 0, .int 0, .int 0, .ref q2, .ref q3, .ref q4, .null, .null, .null, .null, .null, .long 0, .int 0, .int 0, .int 0, .int 0, .null, .null, .int 0, .int 0, .null, .null, .int 0, .null, .int 0])) :: w5) := by rw [hw5]; exact hD
  refine va_putF (D := D) (ci := 0) (v := .ref q5) (ty := tyM 8) (C := RM) (T := TM) (N := 27) hx hb hts wsM_ok tyM tyM_ok nmM hown hK hP hD hS 0 rfl rfl 8 (by decide) (hts _ wd498) (fun _ h9 => h9) rfl hin rfl (tyM_ok 8 (by decide)) rfl rfl (Nat.le_of_ble_eq_true rfl) dn_M_init_38 (fun H locs hP hD hS => ?_)
  have hP : va_P D classes ((h0, .inr (0, [.int 0, .ref q1, .int 0, .int 0, .int 0, .ref q2, .ref q3, .ref q4, .ref q5, .null, .null, .null, .null, .long 0, .int 0, .int 0, .int 0, .int 0, .null, .null, .int 0, .int 0, .null, .null, .int 0, .null, .int 0])) :: w5) H := hP
  have hD : va_D A ((h0, .inr (0, [.int 0, .ref q1, .int 0, .int 0, .int 0, .ref q2, .ref q3, .ref q4, .ref q5, .null, .null, .null, .null, .long 0, .int 0, .int 0, .int 0, .int 0, .null, .null, .int 0, .int 0, .null, .null, .int 0, .null, .int 0])) :: w5) := hD
  refine lv_aload_n hx hb dn_M_init_41 rfl (lv_at hl 0 rfl) ?_
  refine lv_iconst (v := 4) hx hb dn_M_init_42 (by decide) ?_
  refine n_newL hx hb (hts _ wd36) hK hP hD hS hA 4 (by decide) (by decide) (by decide) (Nat.le_of_ble_eq_true rfl) (Nat.le_of_ble_eq_true rfl) dn_M_init_43 (fun q6 H hP hD hS => ?_)
  obtain ⟨w6, hw6⟩ : ∃ w : va_W, w = w5 ++ [(q6, .inl (κ.2.2.1, zl 4))] := ⟨_, rfl⟩
  have hP : va_P D classes ((h0, .inr (0, [.int 0, .ref q1, .int 0, .int 0, .int 0, .ref q2, .ref q3, .ref q4, .ref q5, .null, .null, .null, .null, .long 0, .int 0, .int 0, .int 0, .int 0, .null, .null, .int 0, .int 0, .null, .null, .int 0, .null, .int 0])) :: w6) H := by rw [hw6]; exact hP
  have hD : va_D A ((h0, .inr (0, [.int 0, .ref q1, .int 0, .int 0, .int 0, .ref q2, .ref q3, .ref q4, .ref q5, .null, .null, .null, .null, .long 0, .int 0, .int 0, .int 0, .int 0, .null, .null, .int 0, .int 0, .null, .null, .int 0, .null, .int 0])) :: w6) := by rw [hw6]; exact hD
  refine va_putF (D := D) (ci := 0) (v := .ref q6) (ty := tyM 9) (C := RM) (T := TM) (N := 27) hx hb hts wsM_ok tyM tyM_ok nmM hown hK hP hD hS 0 rfl rfl 9 (by decide) (hts _ wd499) (fun _ h9 => h9) rfl hin rfl (tyM_ok 9 (by decide)) rfl rfl (Nat.le_of_ble_eq_true rfl) dn_M_init_45 (fun H locs hP hD hS => ?_)
  have hP : va_P D classes ((h0, .inr (0, [.int 0, .ref q1, .int 0, .int 0, .int 0, .ref q2, .ref q3, .ref q4, .ref q5, .ref q6, .null, .null, .null, .long 0, .int 0, .int 0, .int 0, .int 0, .null, .null, .int 0, .int 0, .null, .null, .int 0, .null, .int 0])) :: w6) H := hP
  have hD : va_D A ((h0, .inr (0, [.int 0, .ref q1, .int 0, .int 0, .int 0, .ref q2, .ref q3, .ref q4, .ref q5, .ref q6, .null, .null, .null, .long 0, .int 0, .int 0, .int 0, .int 0, .null, .null, .int 0, .int 0, .null, .null, .int 0, .null, .int 0])) :: w6) := hD
  refine lv_aload_n hx hb dn_M_init_48 rfl (lv_at hl 0 rfl) ?_
  refine lv_bipush (v := 20) hx hb dn_M_init_49 (by decide) ?_
  refine n_newL hx hb (hts _ wd36) hK hP hD hS hA 20 (by decide) (by decide) (by decide) (Nat.le_of_ble_eq_true rfl) (Nat.le_of_ble_eq_true rfl) dn_M_init_51 (fun q7 H hP hD hS => ?_)
  obtain ⟨w7, hw7⟩ : ∃ w : va_W, w = w6 ++ [(q7, .inl (κ.2.2.1, zl 20))] := ⟨_, rfl⟩
  have hP : va_P D classes ((h0, .inr (0, [.int 0, .ref q1, .int 0, .int 0, .int 0, .ref q2, .ref q3, .ref q4, .ref q5, .ref q6, .null, .null, .null, .long 0, .int 0, .int 0, .int 0, .int 0, .null, .null, .int 0, .int 0, .null, .null, .int 0, .null, .int 0])) :: w7) H := by rw [hw7]; exact hP
  have hD : va_D A ((h0, .inr (0, [.int 0, .ref q1, .int 0, .int 0, .int 0, .ref q2, .ref q3, .ref q4, .ref q5, .ref q6, .null, .null, .null, .long 0, .int 0, .int 0, .int 0, .int 0, .null, .null, .int 0, .int 0, .null, .null, .int 0, .null, .int 0])) :: w7) := by rw [hw7]; exact hD
  refine va_putF (D := D) (ci := 0) (v := .ref q7) (ty := tyM 10) (C := RM) (T := TM) (N := 27) hx hb hts wsM_ok tyM tyM_ok nmM hown hK hP hD hS 0 rfl rfl 10 (by decide) (hts _ wd500) (fun _ h9 => h9) rfl hin rfl (tyM_ok 10 (by decide)) rfl rfl (Nat.le_of_ble_eq_true rfl) dn_M_init_53 (fun H locs hP hD hS => ?_)
  have hP : va_P D classes ((h0, .inr (0, [.int 0, .ref q1, .int 0, .int 0, .int 0, .ref q2, .ref q3, .ref q4, .ref q5, .ref q6, .ref q7, .null, .null, .long 0, .int 0, .int 0, .int 0, .int 0, .null, .null, .int 0, .int 0, .null, .null, .int 0, .null, .int 0])) :: w7) H := hP
  have hD : va_D A ((h0, .inr (0, [.int 0, .ref q1, .int 0, .int 0, .int 0, .ref q2, .ref q3, .ref q4, .ref q5, .ref q6, .ref q7, .null, .null, .long 0, .int 0, .int 0, .int 0, .int 0, .null, .null, .int 0, .int 0, .null, .null, .int 0, .null, .int 0])) :: w7) := hD
  refine lv_aload_n hx hb dn_M_init_56 rfl (lv_at hl 0 rfl) ?_
  refine lv_iconst (v := 5) hx hb dn_M_init_57 (by decide) ?_
  refine n_newL hx hb (hts _ wd36) hK hP hD hS hA 5 (by decide) (by decide) (by decide) (Nat.le_of_ble_eq_true rfl) (Nat.le_of_ble_eq_true rfl) dn_M_init_58 (fun q8 H hP hD hS => ?_)
  obtain ⟨w8, hw8⟩ : ∃ w : va_W, w = w7 ++ [(q8, .inl (κ.2.2.1, zl 5))] := ⟨_, rfl⟩
  have hP : va_P D classes ((h0, .inr (0, [.int 0, .ref q1, .int 0, .int 0, .int 0, .ref q2, .ref q3, .ref q4, .ref q5, .ref q6, .ref q7, .null, .null, .long 0, .int 0, .int 0, .int 0, .int 0, .null, .null, .int 0, .int 0, .null, .null, .int 0, .null, .int 0])) :: w8) H := by rw [hw8]; exact hP
  have hD : va_D A ((h0, .inr (0, [.int 0, .ref q1, .int 0, .int 0, .int 0, .ref q2, .ref q3, .ref q4, .ref q5, .ref q6, .ref q7, .null, .null, .long 0, .int 0, .int 0, .int 0, .int 0, .null, .null, .int 0, .int 0, .null, .null, .int 0, .null, .int 0])) :: w8) := by rw [hw8]; exact hD
  refine va_putF (D := D) (ci := 0) (v := .ref q8) (ty := tyM 11) (C := RM) (T := TM) (N := 27) hx hb hts wsM_ok tyM tyM_ok nmM hown hK hP hD hS 0 rfl rfl 11 (by decide) (hts _ wd501) (fun _ h9 => h9) rfl hin rfl (tyM_ok 11 (by decide)) rfl rfl (Nat.le_of_ble_eq_true rfl) dn_M_init_60 (fun H locs hP hD hS => ?_)
  have hP : va_P D classes ((h0, .inr (0, [.int 0, .ref q1, .int 0, .int 0, .int 0, .ref q2, .ref q3, .ref q4, .ref q5, .ref q6, .ref q7, .ref q8, .null, .long 0, .int 0, .int 0, .int 0, .int 0, .null, .null, .int 0, .int 0, .null, .null, .int 0, .null, .int 0])) :: w8) H := hP
  have hD : va_D A ((h0, .inr (0, [.int 0, .ref q1, .int 0, .int 0, .int 0, .ref q2, .ref q3, .ref q4, .ref q5, .ref q6, .ref q7, .ref q8, .null, .long 0, .int 0, .int 0, .int 0, .int 0, .null, .null, .int 0, .int 0, .null, .null, .int 0, .null, .int 0])) :: w8) := hD
  refine lv_aload_n hx hb dn_M_init_63 rfl (lv_at hl 0 rfl) ?_
  refine lv_iconst (v := 4) hx hb dn_M_init_64 (by decide) ?_
  refine n_newL hx hb (hts _ wd36) hK hP hD hS hA 4 (by decide) (by decide) (by decide) (Nat.le_of_ble_eq_true rfl) (Nat.le_of_ble_eq_true rfl) dn_M_init_65 (fun q9 H hP hD hS => ?_)
  obtain ⟨w9, hw9⟩ : ∃ w : va_W, w = w8 ++ [(q9, .inl (κ.2.2.1, zl 4))] := ⟨_, rfl⟩
  have hP : va_P D classes ((h0, .inr (0, [.int 0, .ref q1, .int 0, .int 0, .int 0, .ref q2, .ref q3, .ref q4, .ref q5, .ref q6, .ref q7, .ref q8, .null, .long 0, .int 0, .int 0, .int 0, .int 0, .null, .null, .int 0, .int 0, .null, .null, .int 0, .null, .int 0])) :: w9) H := by rw [hw9]; exact hP
  have hD : va_D A ((h0, .inr (0, [.int 0, .ref q1, .int 0, .int 0, .int 0, .ref q2, .ref q3, .ref q4, .ref q5, .ref q6, .ref q7, .ref q8, .null, .long 0, .int 0, .int 0, .int 0, .int 0, .null, .null, .int 0, .int 0, .null, .null, .int 0, .null, .int 0])) :: w9) := by rw [hw9]; exact hD
  refine va_putF (D := D) (ci := 0) (v := .ref q9) (ty := tyM 12) (C := RM) (T := TM) (N := 27) hx hb hts wsM_ok tyM tyM_ok nmM hown hK hP hD hS 0 rfl rfl 12 (by decide) (hts _ wd502) (fun _ h9 => h9) rfl hin rfl (tyM_ok 12 (by decide)) rfl rfl (Nat.le_of_ble_eq_true rfl) dn_M_init_67 (fun H locs hP hD hS => ?_)
  have hP : va_P D classes ((h0, .inr (0, [.int 0, .ref q1, .int 0, .int 0, .int 0, .ref q2, .ref q3, .ref q4, .ref q5, .ref q6, .ref q7, .ref q8, .ref q9, .long 0, .int 0, .int 0, .int 0, .int 0, .null, .null, .int 0, .int 0, .null, .null, .int 0, .null, .int 0])) :: w9) H := hP
  have hD : va_D A ((h0, .inr (0, [.int 0, .ref q1, .int 0, .int 0, .int 0, .ref q2, .ref q3, .ref q4, .ref q5, .ref q6, .ref q7, .ref q8, .ref q9, .long 0, .int 0, .int 0, .int 0, .int 0, .null, .null, .int 0, .int 0, .null, .null, .int 0, .null, .int 0])) :: w9) := hD
  refine lv_aload_n hx hb dn_M_init_70 rfl (lv_at hl 0 rfl) ?_
  refine lv_sipush (v := 164) hx hb dn_M_init_71 (by decide) ?_
  refine n_newL hx hb (hts _ wd36) hK hP hD hS hA 164 (by decide) (by decide) (by decide) (Nat.le_of_ble_eq_true rfl) (Nat.le_of_ble_eq_true rfl) dn_M_init_74 (fun q10 H hP hD hS => ?_)
  obtain ⟨w10, hw10⟩ : ∃ w : va_W, w = w9 ++ [(q10, .inl (κ.2.2.1, zl 164))] := ⟨_, rfl⟩
  have hP : va_P D classes ((h0, .inr (0, [.int 0, .ref q1, .int 0, .int 0, .int 0, .ref q2, .ref q3, .ref q4, .ref q5, .ref q6, .ref q7, .ref q8, .ref q9, .long 0, .int 0, .int 0, .int 0, .int 0, .null, .null, .int 0, .int 0, .null, .null, .int 0, .null, .int 0])) :: w10) H := by rw [hw10]; exact hP
  have hD : va_D A ((h0, .inr (0, [.int 0, .ref q1, .int 0, .int 0, .int 0, .ref q2, .ref q3, .ref q4, .ref q5, .ref q6, .ref q7, .ref q8, .ref q9, .long 0, .int 0, .int 0, .int 0, .int 0, .null, .null, .int 0, .int 0, .null, .null, .int 0, .null, .int 0])) :: w10) := by rw [hw10]; exact hD
  refine va_putF (D := D) (ci := 0) (v := .ref q10) (ty := tyM 18) (C := RM) (T := TM) (N := 27) hx hb hts wsM_ok tyM tyM_ok nmM hown hK hP hD hS 0 rfl rfl 18 (by decide) (hts _ wd508) (fun _ h9 => h9) rfl hin rfl (tyM_ok 18 (by decide)) rfl rfl (Nat.le_of_ble_eq_true rfl) dn_M_init_76 (fun H locs hP hD hS => ?_)
  have hP : va_P D classes ((h0, .inr (0, [.int 0, .ref q1, .int 0, .int 0, .int 0, .ref q2, .ref q3, .ref q4, .ref q5, .ref q6, .ref q7, .ref q8, .ref q9, .long 0, .int 0, .int 0, .int 0, .int 0, .ref q10, .null, .int 0, .int 0, .null, .null, .int 0, .null, .int 0])) :: w10) H := hP
  have hD : va_D A ((h0, .inr (0, [.int 0, .ref q1, .int 0, .int 0, .int 0, .ref q2, .ref q3, .ref q4, .ref q5, .ref q6, .ref q7, .ref q8, .ref q9, .long 0, .int 0, .int 0, .int 0, .int 0, .ref q10, .null, .int 0, .int 0, .null, .null, .int 0, .null, .int 0])) :: w10) := hD
  refine lv_aload_n hx hb dn_M_init_79 rfl (lv_at hl 0 rfl) ?_
  refine lv_bipush (v := 41) hx hb dn_M_init_80 (by decide) ?_
  refine n_newL hx hb (hts _ wd36) hK hP hD hS hA 41 (by decide) (by decide) (by decide) (Nat.le_of_ble_eq_true rfl) (Nat.le_of_ble_eq_true rfl) dn_M_init_82 (fun q11 H hP hD hS => ?_)
  obtain ⟨w11, hw11⟩ : ∃ w : va_W, w = w10 ++ [(q11, .inl (κ.2.2.1, zl 41))] := ⟨_, rfl⟩
  have hP : va_P D classes ((h0, .inr (0, [.int 0, .ref q1, .int 0, .int 0, .int 0, .ref q2, .ref q3, .ref q4, .ref q5, .ref q6, .ref q7, .ref q8, .ref q9, .long 0, .int 0, .int 0, .int 0, .int 0, .ref q10, .null, .int 0, .int 0, .null, .null, .int 0, .null, .int 0])) :: w11) H := by rw [hw11]; exact hP
  have hD : va_D A ((h0, .inr (0, [.int 0, .ref q1, .int 0, .int 0, .int 0, .ref q2, .ref q3, .ref q4, .ref q5, .ref q6, .ref q7, .ref q8, .ref q9, .long 0, .int 0, .int 0, .int 0, .int 0, .ref q10, .null, .int 0, .int 0, .null, .null, .int 0, .null, .int 0])) :: w11) := by rw [hw11]; exact hD
  refine va_putF (D := D) (ci := 0) (v := .ref q11) (ty := tyM 19) (C := RM) (T := TM) (N := 27) hx hb hts wsM_ok tyM tyM_ok nmM hown hK hP hD hS 0 rfl rfl 19 (by decide) (hts _ wd509) (fun _ h9 => h9) rfl hin rfl (tyM_ok 19 (by decide)) rfl rfl (Nat.le_of_ble_eq_true rfl) dn_M_init_84 (fun H locs hP hD hS => ?_)
  have hP : va_P D classes ((h0, .inr (0, [.int 0, .ref q1, .int 0, .int 0, .int 0, .ref q2, .ref q3, .ref q4, .ref q5, .ref q6, .ref q7, .ref q8, .ref q9, .long 0, .int 0, .int 0, .int 0, .int 0, .ref q10, .ref q11, .int 0, .int 0, .null, .null, .int 0, .null, .int 0])) :: w11) H := hP
  have hD : va_D A ((h0, .inr (0, [.int 0, .ref q1, .int 0, .int 0, .int 0, .ref q2, .ref q3, .ref q4, .ref q5, .ref q6, .ref q7, .ref q8, .ref q9, .long 0, .int 0, .int 0, .int 0, .int 0, .ref q10, .ref q11, .int 0, .int 0, .null, .null, .int 0, .null, .int 0])) :: w11) := hD
  refine lv_aload_n hx hb dn_M_init_87 rfl (lv_at hl 0 rfl) ?_
  refine lv_bipush (v := 16) hx hb dn_M_init_88 (by decide) ?_
  refine n_newL hx hb (hts _ wd36) hK hP hD hS hA 16 (by decide) (by decide) (by decide) (Nat.le_of_ble_eq_true rfl) (Nat.le_of_ble_eq_true rfl) dn_M_init_90 (fun q12 H hP hD hS => ?_)
  obtain ⟨w12, hw12⟩ : ∃ w : va_W, w = w11 ++ [(q12, .inl (κ.2.2.1, zl 16))] := ⟨_, rfl⟩
  have hP : va_P D classes ((h0, .inr (0, [.int 0, .ref q1, .int 0, .int 0, .int 0, .ref q2, .ref q3, .ref q4, .ref q5, .ref q6, .ref q7, .ref q8, .ref q9, .long 0, .int 0, .int 0, .int 0, .int 0, .ref q10, .ref q11, .int 0, .int 0, .null, .null, .int 0, .null, .int 0])) :: w12) H := by rw [hw12]; exact hP
  have hD : va_D A ((h0, .inr (0, [.int 0, .ref q1, .int 0, .int 0, .int 0, .ref q2, .ref q3, .ref q4, .ref q5, .ref q6, .ref q7, .ref q8, .ref q9, .long 0, .int 0, .int 0, .int 0, .int 0, .ref q10, .ref q11, .int 0, .int 0, .null, .null, .int 0, .null, .int 0])) :: w12) := by rw [hw12]; exact hD
  refine va_putF (D := D) (ci := 0) (v := .ref q12) (ty := tyM 22) (C := RM) (T := TM) (N := 27) hx hb hts wsM_ok tyM tyM_ok nmM hown hK hP hD hS 0 rfl rfl 22 (by decide) (hts _ wd512) (fun _ h9 => h9) rfl hin rfl (tyM_ok 22 (by decide)) rfl rfl (Nat.le_of_ble_eq_true rfl) dn_M_init_92 (fun H locs hP hD hS => ?_)
  have hP : va_P D classes ((h0, .inr (0, [.int 0, .ref q1, .int 0, .int 0, .int 0, .ref q2, .ref q3, .ref q4, .ref q5, .ref q6, .ref q7, .ref q8, .ref q9, .long 0, .int 0, .int 0, .int 0, .int 0, .ref q10, .ref q11, .int 0, .int 0, .ref q12, .null, .int 0, .null, .int 0])) :: w12) H := hP
  have hD : va_D A ((h0, .inr (0, [.int 0, .ref q1, .int 0, .int 0, .int 0, .ref q2, .ref q3, .ref q4, .ref q5, .ref q6, .ref q7, .ref q8, .ref q9, .long 0, .int 0, .int 0, .int 0, .int 0, .ref q10, .ref q11, .int 0, .int 0, .ref q12, .null, .int 0, .null, .int 0])) :: w12) := hD
  refine lv_aload_n hx hb dn_M_init_95 rfl (lv_at hl 0 rfl) ?_
  refine lv_iconst (v := 5) hx hb dn_M_init_96 (by decide) ?_
  refine n_newI hx hb (hts _ wd88) hK hP hD hS hA 5 (by decide) (by decide) (by decide) (Nat.le_of_ble_eq_true rfl) (Nat.le_of_ble_eq_true rfl) dn_M_init_97 (fun q13 H hP hD hS => ?_)
  obtain ⟨w13, hw13⟩ : ∃ w : va_W, w = w12 ++ [(q13, .inl (κ.2.1, zi 5))] := ⟨_, rfl⟩
  have hP : va_P D classes ((h0, .inr (0, [.int 0, .ref q1, .int 0, .int 0, .int 0, .ref q2, .ref q3, .ref q4, .ref q5, .ref q6, .ref q7, .ref q8, .ref q9, .long 0, .int 0, .int 0, .int 0, .int 0, .ref q10, .ref q11, .int 0, .int 0, .ref q12, .null, .int 0, .null, .int 0])) :: w13) H := by rw [hw13]; exact hP
  have hD : va_D A ((h0, .inr (0, [.int 0, .ref q1, .int 0, .int 0, .int 0, .ref q2, .ref q3, .ref q4, .ref q5, .ref q6, .ref q7, .ref q8, .ref q9, .long 0, .int 0, .int 0, .int 0, .int 0, .ref q10, .ref q11, .int 0, .int 0, .ref q12, .null, .int 0, .null, .int 0])) :: w13) := by rw [hw13]; exact hD
  refine va_putF (D := D) (ci := 0) (v := .ref q13) (ty := tyM 23) (C := RM) (T := TM) (N := 27) hx hb hts wsM_ok tyM tyM_ok nmM hown hK hP hD hS 0 rfl rfl 23 (by decide) (hts _ wd513) (fun _ h9 => h9) rfl hin rfl (tyM_ok 23 (by decide)) rfl rfl (Nat.le_of_ble_eq_true rfl) dn_M_init_99 (fun H locs hP hD hS => ?_)
  have hP : va_P D classes ((h0, .inr (0, [.int 0, .ref q1, .int 0, .int 0, .int 0, .ref q2, .ref q3, .ref q4, .ref q5, .ref q6, .ref q7, .ref q8, .ref q9, .long 0, .int 0, .int 0, .int 0, .int 0, .ref q10, .ref q11, .int 0, .int 0, .ref q12, .ref q13, .int 0, .null, .int 0])) :: w13) H := hP
  have hD : va_D A ((h0, .inr (0, [.int 0, .ref q1, .int 0, .int 0, .int 0, .ref q2, .ref q3, .ref q4, .ref q5, .ref q6, .ref q7, .ref q8, .ref q9, .long 0, .int 0, .int 0, .int 0, .int 0, .ref q10, .ref q11, .int 0, .int 0, .ref q12, .ref q13, .int 0, .null, .int 0])) :: w13) := hD
  refine lv_aload_n hx hb dn_M_init_102 rfl (lv_at hl 0 rfl) ?_
  refine lv_iconst (v := 4) hx hb dn_M_init_103 (by decide) ?_
  refine n_newL hx hb (hts _ wd36) hK hP hD hS hA 4 (by decide) (by decide) (by decide) (Nat.le_of_ble_eq_true rfl) (Nat.le_of_ble_eq_true rfl) dn_M_init_104 (fun q14 H hP hD hS => ?_)
  obtain ⟨w14, hw14⟩ : ∃ w : va_W, w = w13 ++ [(q14, .inl (κ.2.2.1, zl 4))] := ⟨_, rfl⟩
  have hP : va_P D classes ((h0, .inr (0, [.int 0, .ref q1, .int 0, .int 0, .int 0, .ref q2, .ref q3, .ref q4, .ref q5, .ref q6, .ref q7, .ref q8, .ref q9, .long 0, .int 0, .int 0, .int 0, .int 0, .ref q10, .ref q11, .int 0, .int 0, .ref q12, .ref q13, .int 0, .null, .int 0])) :: w14) H := by rw [hw14]; exact hP
  have hD : va_D A ((h0, .inr (0, [.int 0, .ref q1, .int 0, .int 0, .int 0, .ref q2, .ref q3, .ref q4, .ref q5, .ref q6, .ref q7, .ref q8, .ref q9, .long 0, .int 0, .int 0, .int 0, .int 0, .ref q10, .ref q11, .int 0, .int 0, .ref q12, .ref q13, .int 0, .null, .int 0])) :: w14) := by rw [hw14]; exact hD
  refine va_putF (D := D) (ci := 0) (v := .ref q14) (ty := tyM 25) (C := RM) (T := TM) (N := 27) hx hb hts wsM_ok tyM tyM_ok nmM hown hK hP hD hS 0 rfl rfl 25 (by decide) (hts _ wd515) (fun _ h9 => h9) rfl hin rfl (tyM_ok 25 (by decide)) rfl rfl (Nat.le_of_ble_eq_true rfl) dn_M_init_106 (fun H locs hP hD hS => ?_)
  have hP : va_P D classes ((h0, .inr (0, [.int 0, .ref q1, .int 0, .int 0, .int 0, .ref q2, .ref q3, .ref q4, .ref q5, .ref q6, .ref q7, .ref q8, .ref q9, .long 0, .int 0, .int 0, .int 0, .int 0, .ref q10, .ref q11, .int 0, .int 0, .ref q12, .ref q13, .int 0, .ref q14, .int 0])) :: w14) H := hP
  have hD : va_D A ((h0, .inr (0, [.int 0, .ref q1, .int 0, .int 0, .int 0, .ref q2, .ref q3, .ref q4, .ref q5, .ref q6, .ref q7, .ref q8, .ref q9, .long 0, .int 0, .int 0, .int 0, .int 0, .ref q10, .ref q11, .int 0, .int 0, .ref q12, .ref q13, .int 0, .ref q14, .int 0])) :: w14) := hD
  refine W.widen (k := 14) (n := 316) (Nat.le_of_ble_eq_true rfl) (Nat.le_of_ble_eq_true rfl) ?_
  subst hw14
  subst hw13
  subst hw12
  subst hw11
  subst hw10
  subst hw9
  subst hw8
  subst hw7
  subst hw6
  subst hw5
  subst hw4
  subst hw3
  subst hw2
  subst hw1
  have hfin : (fun ws : va_W => ∃ h, h 0 = h0 ∧ ws = wn 15 h (LM (kh 0 h κ) τ0 (fun _ => .inr (0, [])))) (((h0, .inr (0, [.int 0, .ref q1, .int 0, .int 0, .int 0, .ref q2, .ref q3, .ref q4, .ref q5, .ref q6, .ref q7, .ref q8, .ref q9, .long 0, .int 0, .int 0, .int 0, .int 0, .ref q10, .ref q11, .int 0, .int 0, .ref q12, .ref q13, .int 0, .ref q14, .int 0])) :: ([] ++ [(q1, .inl (κ.2.1, zi 24))] ++ [(q2, .inl (κ.2.2.1, zl 16))] ++ [(q3, .inl (κ.2.1, zi 5))] ++ [(q4, .inl (κ.2.2.1, zl 4))] ++ [(q5, .inl (κ.2.2.1, zl 4))] ++ [(q6, .inl (κ.2.2.1, zl 4))] ++ [(q7, .inl (κ.2.2.1, zl 20))] ++ [(q8, .inl (κ.2.2.1, zl 5))] ++ [(q9, .inl (κ.2.2.1, zl 4))] ++ [(q10, .inl (κ.2.2.1, zl 164))] ++ [(q11, .inl (κ.2.2.1, zl 41))] ++ [(q12, .inl (κ.2.2.1, zl 16))] ++ [(q13, .inl (κ.2.1, zi 5))] ++ [(q14, .inl (κ.2.2.1, zl 4))])) : va_W) := ⟨hseg [(1, fun _ => h0), (1, fun _ => q1), (1, fun _ => q2), (1, fun _ => q3), (1, fun _ => q4), (1, fun _ => q5), (1, fun _ => q6), (1, fun _ => q7), (1, fun _ => q8), (1, fun _ => q9), (1, fun _ => q10), (1, fun _ => q11), (1, fun _ => q12), (1, fun _ => q13), (1, fun _ => q14)], rfl, by
    simp only [List.append_assoc, List.cons_append, List.nil_append]
    rfl⟩
  exact W.vret hx hb hr (fun t ht hW => ⟨⟨_, rfl, hfin, by rw [ht]; exact hP, hD⟩, hS.F ht⟩) hS.2.2 dn_M_init_109
