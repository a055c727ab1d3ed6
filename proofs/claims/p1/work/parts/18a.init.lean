def hseg : List (Nat × (Nat → Nat)) → Nat → Nat
  | [], _ => 0
  | q :: r, k => if k < q.1 then q.2 k else hseg r (k - q.1)
theorem hseg_lt {n : Nat} {f : Nat → Nat} {r : List (Nat × (Nat → Nat))} {k : Nat} (h : k < n) : hseg ((n, f) :: r) k = f k := if_pos h
theorem hseg_ge {n : Nat} {f : Nat → Nat} {r : List (Nat × (Nat → Nat))} {k : Nat} : hseg ((n, f) :: r) (n + k) = hseg r k := by
  have h : ¬ n + k < n := by omega
  show (if n + k < n then f (n + k) else hseg r (n + k - n)) = _
  rw [if_neg h, Nat.add_sub_cancel_left]
theorem wn_congr {n : Nat} {h h' : Nat → Nat} {L L' : Nat → va_E} (hh : ∀ k, k < n → h k = h' k) (hL : ∀ k, k < n → L k = L' k) : wn n h L = wn n h' L' := by
  unfold wn
  apply List.map_congr_left
  intro k hk
  have := List.mem_range.mp hk
  rw [hh k this, hL k this]
theorem wn_cons {n m : Nat} {f : Nat → Nat} {g : Nat → va_E} {S : List (Nat × (Nat → Nat))} {G : List (Nat × (Nat → va_E))} : wn n f g ++ wn m (hseg S) (segL G) = wn (n + m) (hseg ((n, f) :: S)) (segL ((n, g) :: G)) := by
  unfold wn
  rw [List.range_add, List.map_append, List.map_map]
  congr 1
  · apply List.map_congr_left
    intro k hk
    have h := List.mem_range.mp hk
    show _ = ((if k < n then f k else _), (if k < n then g k else _))
    rw [if_pos h, if_pos h]
  · apply List.map_congr_left
    intro k hk
    have h : ¬ n + k < n := by omega
    show _ = ((if n + k < n then f (n + k) else hseg S (n + k - n)), (if n + k < n then g (n + k) else segL G (n + k - n)))
    rw [if_neg h, if_neg h, Nat.add_sub_cancel_left]
theorem ro_og {κ : ctx} {n b : Nat} {r : Nat → Nat} (h : ∀ i, i < n → κ.1 (b + i) = r i) : (fun i => if i < n then some (r i) else none) = og κ b n := funext fun i => by
  unfold og
  by_cases hi : i < n
  · rw [if_pos hi, if_pos hi, h i hi]
  · rw [if_neg hi, if_neg hi]
def kh (a : Nat) (h : Nat → Nat) (κ : ctx) : ctx := (fun k => h (k - a), κ.2)
theorem blk_og {κ : ctx} {N K q b : Nat} {r : Nat → Nat} (h : ∀ i, i < N → κ.1 (b + i) = r i) (κ' : ctx) (h2 : κ'.2 = κ.2) : blk κ' N K q r = (q, .inl (κ.2.2.2, N, .inr (.inr (.inr (.inr (og κ b N)))))) :: (List.range N).map (fun i => (r i, .inl (κ.2.2.1, zl K))) := by
  unfold blk
  rw [ro_og h, h2]
theorem dn_K_init_0 : decode cK_init 0 = .ok (.aload_n 0, 1) := by decide +kernel
theorem dn_K_init_1 : decode cK_init 1 = .ok (.invokespecial 3, 3) := by decide +kernel
theorem dn_K_init_4 : decode cK_init 4 = .ok (.aload_n 0, 1) := by decide +kernel
theorem dn_K_init_5 : decode cK_init 5 = .ok (.iconst 4, 1) := by decide +kernel
theorem dn_K_init_6 : decode cK_init 6 = .ok (.newarray .long, 2) := by decide +kernel
theorem dn_K_init_8 : decode cK_init 8 = .ok (.putfield 9, 3) := by decide +kernel
theorem dn_K_init_11 : decode cK_init 11 = .ok (.return_, 1) := by decide +kernel
set_option maxHeartbeats 4000000 in
set_option maxRecDepth 100000 in
theorem mn_K_initT (κ : ctx) (h0 : Nat) : MtN yK_init cK_init 1 ({ frames := 1, cells := 1, slots := 4, locals := 60 }) κ h0 (.inr (4, [.null, .long 0, .null])) 1 4 (fun ws => ∃ q, ws = [(h0, .inr (4, [.ref q, .long 0, .null])), (q, .inl (κ.2.2.1, zl 4))]) := by
  intro l D sz
  refine Met.ofW (cc := cK_init) (maxL := 1) (ret := none) (by decide) rfl ?_
  intro p e s m args below meth c s₁ B hml hv
  obtain ⟨rfl, hsz, hP, hK, hNS, hO, hD0⟩ := hv
  have hx := B.exec
  have hb := B.bytes
  have hr := B.returns
  have hts0 := atoms_spec (ws := uw yK_init cK_init 1 none) B.pre
  have hts : ∀ w ∈ utbl, w.before #[Value.ref h0] s = true := fun w hw => hts0 w (List.mem_cons_of_mem _ hw)
  have hown : s.vm.findClass "ShortVectors$Collector" = some m.cls := findClass_of_methodNamed B.named
  have hlocks := B.notSynchronized
  have hin : meth.name = "<init>" := (name_of_methodNamed B.named B.method).1
  subst hsz
  have hD := hD0.self (sz := s.heap.size)
  generalize hAe : va_A [(h0, .inr (4, [.null, .long 0, .null]))] s.heap.size = A at hD ⊢
  have hA : ∀ q : Nat, s.heap.size ≤ q → A q := fun q h => by rw [← hAe]; exact Or.inr h
  have hS : va_S A s.heap s.heap [] := va_S.rf
  have hl := lv_entry ([.ref h0]) (n := 1) (Nat.le_of_ble_eq_true rfl)
  rw [lg_entry_eq]
  generalize (lg_sl ([.ref h0]) ++ List.replicate (1 - (lg_sl ([.ref h0])).length) Slot.unset).toArray = ls at hl ⊢
  have hl : lv_has ls 1 [(0, .ref h0)] := hl
  refine lv_aload_n hx hb dn_K_init_0 rfl (lv_at hl 0 rfl) ?_
  refine W.objInit hx hb hown (hts _ wd77) (hts _ wd18) (hts _ wd19) rfl (by rw [hml]; exact hl.1) rfl dn_K_init_1 (Nat.le_of_ble_eq_true rfl) (Nat.le_of_ble_eq_true rfl) ?_
  refine W.eq (g2 := F0 m 4 ls []) rfl ?_
  refine lv_aload_n hx hb dn_K_init_4 rfl (lv_at hl 0 rfl) ?_
  refine lv_iconst (v := 4) hx hb dn_K_init_5 (by decide) ?_
  refine n_newL hx hb (hts _ wd36) hK hP hD hS hA 4 (by decide) (by decide) (by decide) (Nat.le_of_ble_eq_true rfl) (Nat.le_of_ble_eq_true rfl) dn_K_init_6 (fun q1 H hP hD hS => ?_)
  obtain ⟨w1, hw1⟩ : ∃ w : va_W, w = [] ++ [(q1, .inl (κ.2.2.1, zl 4))] := ⟨_, rfl⟩
  have hP : va_P D classes ((h0, .inr (4, [.null, .long 0, .null])) :: w1) H := by rw [hw1]; exact hP
  have hD : va_D A ((h0, .inr (4, [.null, .long 0, .null])) :: w1) := by rw [hw1]; exact hD
  refine va_putF (D := D) (ci := 4) (v := .ref q1) (ty := tyT 0) (C := RT) (T := TT) (N := 3) hx hb hts wsT_ok tyT tyT_ok nmT hown hK hP hD hS 0 rfl rfl 0 (by decide) (hts _ wd79) (fun _ h9 => h9) rfl hin rfl (tyT_ok 0 (by decide)) rfl rfl (Nat.le_of_ble_eq_true rfl) dn_K_init_8 (fun H locs hP hD hS => ?_)
  have hP : va_P D classes ((h0, .inr (4, [.ref q1, .long 0, .null])) :: w1) H := hP
  have hD : va_D A ((h0, .inr (4, [.ref q1, .long 0, .null])) :: w1) := hD
  refine W.widen (k := 1) (n := 4) (Nat.le_of_ble_eq_true rfl) (Nat.le_of_ble_eq_true rfl) ?_
  subst hw1
  have hfin : (fun ws : va_W => ∃ q, ws = [(h0, .inr (4, [.ref q, .long 0, .null])), (q, .inl (κ.2.2.1, zl 4))]) (((h0, .inr (4, [.ref q1, .long 0, .null])) :: ([] ++ [(q1, .inl (κ.2.2.1, zl 4))])) : va_W) := ⟨q1, rfl⟩
  exact W.vret hx hb hr (fun t ht hW => ⟨⟨_, rfl, hfin, by rw [ht]; exact hP, hD⟩, hS.F ht⟩) hS.2.2 dn_K_init_11
set_option maxHeartbeats 4000000 in
set_option maxRecDepth 100000 in
theorem mn_K_initF (κ : ctx) (h0 : Nat) : MtN yK_init cK_init 1 ({ frames := 1, cells := 1, slots := 4, locals := 60 }) κ h0 (.inr (5, [.null, .long 0, .null, .null, .int 0])) 1 4 (fun ws => ∃ q, ws = [(h0, .inr (5, [.ref q, .long 0, .null, .null, .int 0])), (q, .inl (κ.2.2.1, zl 4))]) := by
  intro l D sz
  refine Met.ofW (cc := cK_init) (maxL := 1) (ret := none) (by decide) rfl ?_
  intro p e s m args below meth c s₁ B hml hv
  obtain ⟨rfl, hsz, hP, hK, hNS, hO, hD0⟩ := hv
  have hx := B.exec
  have hb := B.bytes
  have hr := B.returns
  have hts0 := atoms_spec (ws := uw yK_init cK_init 1 none) B.pre
  have hts : ∀ w ∈ utbl, w.before #[Value.ref h0] s = true := fun w hw => hts0 w (List.mem_cons_of_mem _ hw)
  have hown : s.vm.findClass "ShortVectors$Collector" = some m.cls := findClass_of_methodNamed B.named
  have hlocks := B.notSynchronized
  have hin : meth.name = "<init>" := (name_of_methodNamed B.named B.method).1
  subst hsz
  have hD := hD0.self (sz := s.heap.size)
  generalize hAe : va_A [(h0, .inr (5, [.null, .long 0, .null, .null, .int 0]))] s.heap.size = A at hD ⊢
  have hA : ∀ q : Nat, s.heap.size ≤ q → A q := fun q h => by rw [← hAe]; exact Or.inr h
  have hS : va_S A s.heap s.heap [] := va_S.rf
  have hl := lv_entry ([.ref h0]) (n := 1) (Nat.le_of_ble_eq_true rfl)
  rw [lg_entry_eq]
  generalize (lg_sl ([.ref h0]) ++ List.replicate (1 - (lg_sl ([.ref h0])).length) Slot.unset).toArray = ls at hl ⊢
  have hl : lv_has ls 1 [(0, .ref h0)] := hl
  refine lv_aload_n hx hb dn_K_init_0 rfl (lv_at hl 0 rfl) ?_
  refine W.objInit hx hb hown (hts _ wd77) (hts _ wd18) (hts _ wd19) rfl (by rw [hml]; exact hl.1) rfl dn_K_init_1 (Nat.le_of_ble_eq_true rfl) (Nat.le_of_ble_eq_true rfl) ?_
  refine W.eq (g2 := F0 m 4 ls []) rfl ?_
  refine lv_aload_n hx hb dn_K_init_4 rfl (lv_at hl 0 rfl) ?_
  refine lv_iconst (v := 4) hx hb dn_K_init_5 (by decide) ?_
  refine n_newL hx hb (hts _ wd36) hK hP hD hS hA 4 (by decide) (by decide) (by decide) (Nat.le_of_ble_eq_true rfl) (Nat.le_of_ble_eq_true rfl) dn_K_init_6 (fun q1 H hP hD hS => ?_)
  obtain ⟨w1, hw1⟩ : ∃ w : va_W, w = [] ++ [(q1, .inl (κ.2.2.1, zl 4))] := ⟨_, rfl⟩
  have hP : va_P D classes ((h0, .inr (5, [.null, .long 0, .null, .null, .int 0])) :: w1) H := by rw [hw1]; exact hP
  have hD : va_D A ((h0, .inr (5, [.null, .long 0, .null, .null, .int 0])) :: w1) := by rw [hw1]; exact hD
  refine va_putF (D := D) (ci := 5) (v := .ref q1) (ty := tyF 0) (C := RF) (T := TF) (N := 5) hx hb hts wsF_ok tyF tyF_ok nmF hown hK hP hD hS 0 rfl rfl 0 (by decide) (hts _ wd79) (fun _ h9 => h9) rfl hin rfl (tyF_ok 0 (by decide)) rfl rfl (Nat.le_of_ble_eq_true rfl) dn_K_init_8 (fun H locs hP hD hS => ?_)
  have hP : va_P D classes ((h0, .inr (5, [.ref q1, .long 0, .null, .null, .int 0])) :: w1) H := hP
  have hD : va_D A ((h0, .inr (5, [.ref q1, .long 0, .null, .null, .int 0])) :: w1) := hD
  refine W.widen (k := 1) (n := 4) (Nat.le_of_ble_eq_true rfl) (Nat.le_of_ble_eq_true rfl) ?_
  subst hw1
  have hfin : (fun ws : va_W => ∃ q, ws = [(h0, .inr (5, [.ref q, .long 0, .null, .null, .int 0])), (q, .inl (κ.2.2.1, zl 4))]) (((h0, .inr (5, [.ref q1, .long 0, .null, .null, .int 0])) :: ([] ++ [(q1, .inl (κ.2.2.1, zl 4))])) : va_W) := ⟨q1, rfl⟩
  exact W.vret hx hb hr (fun t ht hW => ⟨⟨_, rfl, hfin, by rw [ht]; exact hP, hD⟩, hS.F ht⟩) hS.2.2 dn_K_init_11
set_option maxHeartbeats 4000000 in
set_option maxRecDepth 100000 in
theorem mn_K_initC (κ : ctx) (h0 : Nat) : MtN yK_init cK_init 1 ({ frames := 1, cells := 1, slots := 4, locals := 60 }) κ h0 (.inr (6, [.null, .long 0, .null, .long 0])) 1 4 (fun ws => ∃ q, ws = [(h0, .inr (6, [.ref q, .long 0, .null, .long 0])), (q, .inl (κ.2.2.1, zl 4))]) := by
  intro l D sz
  refine Met.ofW (cc := cK_init) (maxL := 1) (ret := none) (by decide) rfl ?_
  intro p e s m args below meth c s₁ B hml hv
  obtain ⟨rfl, hsz, hP, hK, hNS, hO, hD0⟩ := hv
  have hx := B.exec
  have hb := B.bytes
  have hr := B.returns
  have hts0 := atoms_spec (ws := uw yK_init cK_init 1 none) B.pre
  have hts : ∀ w ∈ utbl, w.before #[Value.ref h0] s = true := fun w hw => hts0 w (List.mem_cons_of_mem _ hw)
  have hown : s.vm.findClass "ShortVectors$Collector" = some m.cls := findClass_of_methodNamed B.named
  have hlocks := B.notSynchronized
  have hin : meth.name = "<init>" := (name_of_methodNamed B.named B.method).1
  subst hsz
  have hD := hD0.self (sz := s.heap.size)
  generalize hAe : va_A [(h0, .inr (6, [.null, .long 0, .null, .long 0]))] s.heap.size = A at hD ⊢
  have hA : ∀ q : Nat, s.heap.size ≤ q → A q := fun q h => by rw [← hAe]; exact Or.inr h
  have hS : va_S A s.heap s.heap [] := va_S.rf
  have hl := lv_entry ([.ref h0]) (n := 1) (Nat.le_of_ble_eq_true rfl)
  rw [lg_entry_eq]
  generalize (lg_sl ([.ref h0]) ++ List.replicate (1 - (lg_sl ([.ref h0])).length) Slot.unset).toArray = ls at hl ⊢
  have hl : lv_has ls 1 [(0, .ref h0)] := hl
  refine lv_aload_n hx hb dn_K_init_0 rfl (lv_at hl 0 rfl) ?_
  refine W.objInit hx hb hown (hts _ wd77) (hts _ wd18) (hts _ wd19) rfl (by rw [hml]; exact hl.1) rfl dn_K_init_1 (Nat.le_of_ble_eq_true rfl) (Nat.le_of_ble_eq_true rfl) ?_
  refine W.eq (g2 := F0 m 4 ls []) rfl ?_
  refine lv_aload_n hx hb dn_K_init_4 rfl (lv_at hl 0 rfl) ?_
  refine lv_iconst (v := 4) hx hb dn_K_init_5 (by decide) ?_
  refine n_newL hx hb (hts _ wd36) hK hP hD hS hA 4 (by decide) (by decide) (by decide) (Nat.le_of_ble_eq_true rfl) (Nat.le_of_ble_eq_true rfl) dn_K_init_6 (fun q1 H hP hD hS => ?_)
  obtain ⟨w1, hw1⟩ : ∃ w : va_W, w = [] ++ [(q1, .inl (κ.2.2.1, zl 4))] := ⟨_, rfl⟩
  have hP : va_P D classes ((h0, .inr (6, [.null, .long 0, .null, .long 0])) :: w1) H := by rw [hw1]; exact hP
  have hD : va_D A ((h0, .inr (6, [.null, .long 0, .null, .long 0])) :: w1) := by rw [hw1]; exact hD
  refine va_putF (D := D) (ci := 6) (v := .ref q1) (ty := tyC 0) (C := RC) (T := TC) (N := 4) hx hb hts wsC_ok tyC tyC_ok nmC hown hK hP hD hS 0 rfl rfl 0 (by decide) (hts _ wd79) (fun _ h9 => h9) rfl hin rfl (tyC_ok 0 (by decide)) rfl rfl (Nat.le_of_ble_eq_true rfl) dn_K_init_8 (fun H locs hP hD hS => ?_)
  have hP : va_P D classes ((h0, .inr (6, [.ref q1, .long 0, .null, .long 0])) :: w1) H := hP
  have hD : va_D A ((h0, .inr (6, [.ref q1, .long 0, .null, .long 0])) :: w1) := hD
  refine W.widen (k := 1) (n := 4) (Nat.le_of_ble_eq_true rfl) (Nat.le_of_ble_eq_true rfl) ?_
  subst hw1
  have hfin : (fun ws : va_W => ∃ q, ws = [(h0, .inr (6, [.ref q, .long 0, .null, .long 0])), (q, .inl (κ.2.2.1, zl 4))]) (((h0, .inr (6, [.ref q1, .long 0, .null, .long 0])) :: ([] ++ [(q1, .inl (κ.2.2.1, zl 4))])) : va_W) := ⟨q1, rfl⟩
  exact W.vret hx hb hr (fun t ht hW => ⟨⟨_, rfl, hfin, by rw [ht]; exact hP, hD⟩, hS.F ht⟩) hS.2.2 dn_K_init_11
theorem dn_E_init_0 : decode cE_init 0 = .ok (.aload_n 0, 1) := by decide +kernel
theorem dn_E_init_1 : decode cE_init 1 = .ok (.invokespecial 3, 3) := by decide +kernel
theorem dn_E_init_4 : decode cE_init 4 = .ok (.aload_n 0, 1) := by decide +kernel
theorem dn_E_init_5 : decode cE_init 5 = .ok (.iconst 4, 1) := by decide +kernel
theorem dn_E_init_6 : decode cE_init 6 = .ok (.iconst 4, 1) := by decide +kernel
theorem dn_E_init_7 : decode cE_init 7 = .ok (.multianewarray 9 2, 4) := by decide +kernel
theorem dn_E_init_11 : decode cE_init 11 = .ok (.putfield 11, 3) := by decide +kernel
theorem dn_E_init_14 : decode cE_init 14 = .ok (.aload_n 0, 1) := by decide +kernel
theorem dn_E_init_15 : decode cE_init 15 = .ok (.iconst 4, 1) := by decide +kernel
theorem dn_E_init_16 : decode cE_init 16 = .ok (.newarray .long, 2) := by decide +kernel
theorem dn_E_init_18 : decode cE_init 18 = .ok (.putfield 16, 3) := by decide +kernel
theorem dn_E_init_21 : decode cE_init 21 = .ok (.return_, 1) := by decide +kernel
set_option maxHeartbeats 4000000 in
set_option maxRecDepth 100000 in
theorem mn_E_init (κ : ctx) (h0 : Nat) : MtN yE_init cE_init 1 ({ frames := 1, cells := 6, slots := 24, locals := 60 }) κ h0 (.inr (2, [.null, .null])) 6 24 (fun ws => ∃ h, h 0 = h0 ∧ ws = wn 7 h (segL (g_E (kh 24 h κ) (fun _ _ => 0) (fun _ => 0)))) := by
  intro l D sz
  refine Met.ofW (cc := cE_init) (maxL := 1) (ret := none) (by decide) rfl ?_
  intro p e s m args below meth c s₁ B hml hv
  obtain ⟨rfl, hsz, hP, hK, hNS, hO, hD0⟩ := hv
  have hx := B.exec
  have hb := B.bytes
  have hr := B.returns
  have hts0 := atoms_spec (ws := uw yE_init cE_init 1 none) B.pre
  have hts : ∀ w ∈ utbl, w.before #[Value.ref h0] s = true := fun w hw => hts0 w (List.mem_cons_of_mem _ hw)
  have hown : s.vm.findClass "ShortVectors$Echelon" = some m.cls := findClass_of_methodNamed B.named
  have hlocks := B.notSynchronized
  have hin : meth.name = "<init>" := (name_of_methodNamed B.named B.method).1
  subst hsz
  have hD := hD0.self (sz := s.heap.size)
  generalize hAe : va_A [(h0, .inr (2, [.null, .null]))] s.heap.size = A at hD ⊢
  have hA : ∀ q : Nat, s.heap.size ≤ q → A q := fun q h => by rw [← hAe]; exact Or.inr h
  have hS : va_S A s.heap s.heap [] := va_S.rf
  have hl := lv_entry ([.ref h0]) (n := 1) (Nat.le_of_ble_eq_true rfl)
  rw [lg_entry_eq]
  generalize (lg_sl ([.ref h0]) ++ List.replicate (1 - (lg_sl ([.ref h0])).length) Slot.unset).toArray = ls at hl ⊢
  have hl : lv_has ls 1 [(0, .ref h0)] := hl
  refine lv_aload_n hx hb dn_E_init_0 rfl (lv_at hl 0 rfl) ?_
  refine W.objInit hx hb hown (hts _ wd27) (hts _ wd18) (hts _ wd19) rfl (by rw [hml]; exact hl.1) rfl dn_E_init_1 (Nat.le_of_ble_eq_true rfl) (Nat.le_of_ble_eq_true rfl) ?_
  refine W.eq (g2 := F0 m 4 ls []) rfl ?_
  refine lv_aload_n hx hb dn_E_init_4 rfl (lv_at hl 0 rfl) ?_
  refine lv_iconst (v := 4) hx hb dn_E_init_5 (by decide) ?_
  refine lv_iconst (v := 4) hx hb dn_E_init_6 (by decide) ?_
  refine n_mna hx hb hown (hts _ wd28) hO (hts _ wd36) hK hP hD hS hA 4 4 (by decide) (by decide) (by decide) (by decide) (by decide) (by decide) (by decide) (Nat.le_of_ble_eq_true rfl) (Nat.le_of_ble_eq_true rfl) dn_E_init_7 (fun q1 r1 H hP hD hS => ?_)
  obtain ⟨w1, hw1⟩ : ∃ w : va_W, w = [] ++ blk κ 4 4 q1 r1 := ⟨_, rfl⟩
  have hP : va_P D classes ((h0, .inr (2, [.null, .null])) :: w1) H := by rw [hw1]; exact hP
  have hD : va_D A ((h0, .inr (2, [.null, .null])) :: w1) := by rw [hw1]; exact hD
  refine va_putF (D := D) (ci := 2) (v := .ref q1) (ty := tyE 0) (C := RE) (T := TE) (N := 2) hx hb hts wsE_ok tyE tyE_ok nmE hown hK hP hD hS 0 rfl rfl 0 (by decide) (hts _ wd29) (fun _ h9 => h9) rfl hin rfl (tyE_ok 0 (by decide)) rfl rfl (Nat.le_of_ble_eq_true rfl) dn_E_init_11 (fun H locs hP hD hS => ?_)
  have hP : va_P D classes ((h0, .inr (2, [.ref q1, .null])) :: w1) H := hP
  have hD : va_D A ((h0, .inr (2, [.ref q1, .null])) :: w1) := hD
  refine lv_aload_n hx hb dn_E_init_14 rfl (lv_at hl 0 rfl) ?_
  refine lv_iconst (v := 4) hx hb dn_E_init_15 (by decide) ?_
  refine n_newL hx hb (hts _ wd36) hK hP hD hS hA 4 (by decide) (by decide) (by decide) (Nat.le_of_ble_eq_true rfl) (Nat.le_of_ble_eq_true rfl) dn_E_init_16 (fun q2 H hP hD hS => ?_)
  obtain ⟨w2, hw2⟩ : ∃ w : va_W, w = w1 ++ [(q2, .inl (κ.2.2.1, zl 4))] := ⟨_, rfl⟩
  have hP : va_P D classes ((h0, .inr (2, [.ref q1, .null])) :: w2) H := by rw [hw2]; exact hP
  have hD : va_D A ((h0, .inr (2, [.ref q1, .null])) :: w2) := by rw [hw2]; exact hD
  refine va_putF (D := D) (ci := 2) (v := .ref q2) (ty := tyE 1) (C := RE) (T := TE) (N := 2) hx hb hts wsE_ok tyE tyE_ok nmE hown hK hP hD hS 0 rfl rfl 1 (by decide) (hts _ wd30) (fun _ h9 => h9) rfl hin rfl (tyE_ok 1 (by decide)) rfl rfl (Nat.le_of_ble_eq_true rfl) dn_E_init_18 (fun H locs hP hD hS => ?_)
  have hP : va_P D classes ((h0, .inr (2, [.ref q1, .ref q2])) :: w2) H := hP
  have hD : va_D A ((h0, .inr (2, [.ref q1, .ref q2])) :: w2) := hD
  refine W.widen (k := 6) (n := 24) (Nat.le_of_ble_eq_true rfl) (Nat.le_of_ble_eq_true rfl) ?_
  subst hw2
  subst hw1
  have hfin : (fun ws : va_W => ∃ h, h 0 = h0 ∧ ws = wn 7 h (segL (g_E (kh 24 h κ) (fun _ _ => 0) (fun _ => 0)))) (((h0, .inr (2, [.ref q1, .ref q2])) :: ([] ++ blk κ 4 4 q1 r1 ++ [(q2, .inl (κ.2.2.1, zl 4))])) : va_W) := ⟨hseg [(1, fun _ => h0), (1, fun _ => q1), (4, r1), (1, fun _ => q2)], rfl, by
    rw [blk_og (κ := kh 24 (hseg [(1, fun _ => h0), (1, fun _ => q1), (4, r1), (1, fun _ => q2)]) κ) (b := 26) (r := r1) (N := 4) (fun i hi => by
      show hseg _ (26 + i - 24) = _
      rw [show 26 + i - 24 = 2 + i by omega]
      rw [show 2 + i = 1 + (1 + i) by omega, hseg_ge]
      rw [show 1 + i = 1 + i from rfl, hseg_ge]
      exact hseg_lt hi) κ rfl]
    simp only [List.append_assoc, List.cons_append, List.nil_append]
    rfl⟩
  exact W.vret hx hb hr (fun t ht hW => ⟨⟨_, rfl, hfin, by rw [ht]; exact hP, hD⟩, hS.F ht⟩) hS.2.2 dn_E_init_21
theorem dn_B_init_0 : decode cB_init 0 = .ok (.aload_n 0, 1) := by decide +kernel
theorem dn_B_init_1 : decode cB_init 1 = .ok (.invokespecial 5, 3) := by decide +kernel
theorem dn_B_init_4 : decode cB_init 4 = .ok (.aload_n 0, 1) := by decide +kernel
theorem dn_B_init_5 : decode cB_init 5 = .ok (.iconst 4, 1) := by decide +kernel
theorem dn_B_init_6 : decode cB_init 6 = .ok (.iconst 4, 1) := by decide +kernel
theorem dn_B_init_7 : decode cB_init 7 = .ok (.multianewarray 11 2, 4) := by decide +kernel
theorem dn_B_init_11 : decode cB_init 11 = .ok (.putfield 13, 3) := by decide +kernel
theorem dn_B_init_14 : decode cB_init 14 = .ok (.aload_n 0, 1) := by decide +kernel
theorem dn_B_init_15 : decode cB_init 15 = .ok (.iconst 4, 1) := by decide +kernel
theorem dn_B_init_16 : decode cB_init 16 = .ok (.iconst 4, 1) := by decide +kernel
theorem dn_B_init_17 : decode cB_init 17 = .ok (.multianewarray 11 2, 4) := by decide +kernel
theorem dn_B_init_21 : decode cB_init 21 = .ok (.putfield 16, 3) := by decide +kernel
theorem dn_B_init_24 : decode cB_init 24 = .ok (.aload_n 0, 1) := by decide +kernel
theorem dn_B_init_25 : decode cB_init 25 = .ok (.iconst 4, 1) := by decide +kernel
theorem dn_B_init_26 : decode cB_init 26 = .ok (.newarray .long, 2) := by decide +kernel
theorem dn_B_init_28 : decode cB_init 28 = .ok (.putfield 19, 3) := by decide +kernel
theorem dn_B_init_31 : decode cB_init 31 = .ok (.aload_n 0, 1) := by decide +kernel
theorem dn_B_init_32 : decode cB_init 32 = .ok (.iconst 4, 1) := by decide +kernel
theorem dn_B_init_33 : decode cB_init 33 = .ok (.newarray .long, 2) := by decide +kernel
theorem dn_B_init_35 : decode cB_init 35 = .ok (.putfield 23, 3) := by decide +kernel
theorem dn_B_init_38 : decode cB_init 38 = .ok (.aload_n 0, 1) := by decide +kernel
theorem dn_B_init_39 : decode cB_init 39 = .ok (.iconst 5, 1) := by decide +kernel
theorem dn_B_init_40 : decode cB_init 40 = .ok (.iconst 4, 1) := by decide +kernel
theorem dn_B_init_41 : decode cB_init 41 = .ok (.multianewarray 11 2, 4) := by decide +kernel
theorem dn_B_init_45 : decode cB_init 45 = .ok (.putfield 26, 3) := by decide +kernel
theorem dn_B_init_48 : decode cB_init 48 = .ok (.aload_n 0, 1) := by decide +kernel
theorem dn_B_init_49 : decode cB_init 49 = .ok (.iconst 4, 1) := by decide +kernel
theorem dn_B_init_50 : decode cB_init 50 = .ok (.iconst 4, 1) := by decide +kernel
theorem dn_B_init_51 : decode cB_init 51 = .ok (.multianewarray 11 2, 4) := by decide +kernel
theorem dn_B_init_55 : decode cB_init 55 = .ok (.putfield 29, 3) := by decide +kernel
theorem dn_B_init_58 : decode cB_init 58 = .ok (.aload_n 0, 1) := by decide +kernel
theorem dn_B_init_59 : decode cB_init 59 = .ok (.iconst 4, 1) := by decide +kernel
theorem dn_B_init_60 : decode cB_init 60 = .ok (.newarray .long, 2) := by decide +kernel
theorem dn_B_init_62 : decode cB_init 62 = .ok (.putfield 32, 3) := by decide +kernel
theorem dn_B_init_65 : decode cB_init 65 = .ok (.return_, 1) := by decide +kernel
set_option maxHeartbeats 4000000 in
set_option maxRecDepth 100000 in
theorem mn_B_init (κ : ctx) (h0 : Nat) : MtN yB_init cB_init 1 ({ frames := 1, cells := 24, slots := 97, locals := 60 }) κ h0 (.inr (3, [.null, .null, .null, .null, .null, .null, .null, .int 0])) 24 97 (fun ws => ∃ h, h 0 = h0 ∧ ws = wn 25 h (segL (g_B (kh 38 h κ) (fun _ _ => 0) (fun _ _ => 0) (fun _ => 0) (fun _ => 0) (fun _ _ => 0) (fun _ _ => 0) (fun _ => 0) 0))) := by
  intro l D sz
  refine Met.ofW (cc := cB_init) (maxL := 1) (ret := none) (by decide) rfl ?_
  intro p e s m args below meth c s₁ B hml hv
  obtain ⟨rfl, hsz, hP, hK, hNS, hO, hD0⟩ := hv
  have hx := B.exec
  have hb := B.bytes
  have hr := B.returns
  have hts0 := atoms_spec (ws := uw yB_init cB_init 1 none) B.pre
  have hts : ∀ w ∈ utbl, w.before #[Value.ref h0] s = true := fun w hw => hts0 w (List.mem_cons_of_mem _ hw)
  have hown : s.vm.findClass "ShortVectors$Basis" = some m.cls := findClass_of_methodNamed B.named
  have hlocks := B.notSynchronized
  have hin : meth.name = "<init>" := (name_of_methodNamed B.named B.method).1
  subst hsz
  have hD := hD0.self (sz := s.heap.size)
  generalize hAe : va_A [(h0, .inr (3, [.null, .null, .null, .null, .null, .null, .null, .int 0]))] s.heap.size = A at hD ⊢
  have hA : ∀ q : Nat, s.heap.size ≤ q → A q := fun q h => by rw [← hAe]; exact Or.inr h
  have hS : va_S A s.heap s.heap [] := va_S.rf
  have hl := lv_entry ([.ref h0]) (n := 1) (Nat.le_of_ble_eq_true rfl)
  rw [lg_entry_eq]
  generalize (lg_sl ([.ref h0]) ++ List.replicate (1 - (lg_sl ([.ref h0])).length) Slot.unset).toArray = ls at hl ⊢
  have hl : lv_has ls 1 [(0, .ref h0)] := hl
  refine lv_aload_n hx hb dn_B_init_0 rfl (lv_at hl 0 rfl) ?_
  refine W.objInit hx hb hown (hts _ wd42) (hts _ wd18) (hts _ wd19) rfl (by rw [hml]; exact hl.1) rfl dn_B_init_1 (Nat.le_of_ble_eq_true rfl) (Nat.le_of_ble_eq_true rfl) ?_
  refine W.eq (g2 := F0 m 4 ls []) rfl ?_
  refine lv_aload_n hx hb dn_B_init_4 rfl (lv_at hl 0 rfl) ?_
  refine lv_iconst (v := 4) hx hb dn_B_init_5 (by decide) ?_
  refine lv_iconst (v := 4) hx hb dn_B_init_6 (by decide) ?_
  refine n_mna hx hb hown (hts _ wd43) hO (hts _ wd36) hK hP hD hS hA 4 4 (by decide) (by decide) (by decide) (by decide) (by decide) (by decide) (by decide) (Nat.le_of_ble_eq_true rfl) (Nat.le_of_ble_eq_true rfl) dn_B_init_7 (fun q1 r1 H hP hD hS => ?_)
  obtain ⟨w1, hw1⟩ : ∃ w : va_W, w = [] ++ blk κ 4 4 q1 r1 := ⟨_, rfl⟩
  have hP : va_P D classes ((h0, .inr (3, [.null, .null, .null, .null, .null, .null, .null, .int 0])) :: w1) H := by rw [hw1]; exact hP
  have hD : va_D A ((h0, .inr (3, [.null, .null, .null, .null, .null, .null, .null, .int 0])) :: w1) := by rw [hw1]; exact hD
  refine va_putF (D := D) (ci := 3) (v := .ref q1) (ty := tyB 0) (C := RB) (T := TB) (N := 8) hx hb hts wsB_ok tyB tyB_ok nmB hown hK hP hD hS 0 rfl rfl 0 (by decide) (hts _ wd44) (fun _ h9 => h9) rfl hin rfl (tyB_ok 0 (by decide)) rfl rfl (Nat.le_of_ble_eq_true rfl) dn_B_init_11 (fun H locs hP hD hS => ?_)
  have hP : va_P D classes ((h0, .inr (3, [.ref q1, .null, .null, .null, .null, .null, .null, .int 0])) :: w1) H := hP
  have hD : va_D A ((h0, .inr (3, [.ref q1, .null, .null, .null, .null, .null, .null, .int 0])) :: w1) := hD
  refine lv_aload_n hx hb dn_B_init_14 rfl (lv_at hl 0 rfl) ?_
  refine lv_iconst (v := 4) hx hb dn_B_init_15 (by decide) ?_
  refine lv_iconst (v := 4) hx hb dn_B_init_16 (by decide) ?_
  refine n_mna hx hb hown (hts _ wd43) hO (hts _ wd36) hK hP hD hS hA 4 4 (by decide) (by decide) (by decide) (by decide) (by decide) (by decide) (by decide) (Nat.le_of_ble_eq_true rfl) (Nat.le_of_ble_eq_true rfl) dn_B_init_17 (fun q2 r2 H hP hD hS => ?_)
  obtain ⟨w2, hw2⟩ : ∃ w : va_W, w = w1 ++ blk κ 4 4 q2 r2 := ⟨_, rfl⟩
  have hP : va_P D classes ((h0, .inr (3, [.ref q1, .null, .null, .null, .null, .null, .null, .int 0])) :: w2) H := by rw [hw2]; exact hP
  have hD : va_D A ((h0, .inr (3, [.ref q1, .null, .null, .null, .null, .null, .null, .int 0])) :: w2) := by rw [hw2]; exact hD
  refine va_putF (D := D) (ci := 3) (v := .ref q2) (ty := tyB 1) (C := RB) (T := TB) (N := 8) hx hb hts wsB_ok tyB tyB_ok nmB hown hK hP hD hS 0 rfl rfl 1 (by decide) (hts _ wd45) (fun _ h9 => h9) rfl hin rfl (tyB_ok 1 (by decide)) rfl rfl (Nat.le_of_ble_eq_true rfl) dn_B_init_21 (fun H locs hP hD hS => ?_)
  have hP : va_P D classes ((h0, .inr (3, [.ref q1, .ref q2, .null, .null, .null, .null, .null, .int 0])) :: w2) H := hP
  have hD : va_D A ((h0, .inr (3, [.ref q1, .ref q2, .null, .null, .null, .null, .null, .int 0])) :: w2) := hD
  refine lv_aload_n hx hb dn_B_init_24 rfl (lv_at hl 0 rfl) ?_
  refine lv_iconst (v := 4) hx hb dn_B_init_25 (by decide) ?_
  refine n_newL hx hb (hts _ wd36) hK hP hD hS hA 4 (by decide) (by decide) (by decide) (Nat.le_of_ble_eq_true rfl) (Nat.le_of_ble_eq_true rfl) dn_B_init_26 (fun q3 H hP hD hS => ?_)
  obtain ⟨w3, hw3⟩ : ∃ w : va_W, w = w2 ++ [(q3, .inl (κ.2.2.1, zl 4))] := ⟨_, rfl⟩
  have hP : va_P D classes ((h0, .inr (3, [.ref q1, .ref q2, .null, .null, .null, .null, .null, .int 0])) :: w3) H := by rw [hw3]; exact hP
  have hD : va_D A ((h0, .inr (3, [.ref q1, .ref q2, .null, .null, .null, .null, .null, .int 0])) :: w3) := by rw [hw3]; exact hD
  refine va_putF (D := D) (ci := 3) (v := .ref q3) (ty := tyB 2) (C := RB) (T := TB) (N := 8) hx hb hts wsB_ok tyB tyB_ok nmB hown hK hP hD hS 0 rfl rfl 2 (by decide) (hts _ wd46) (fun _ h9 => h9) rfl hin rfl (tyB_ok 2 (by decide)) rfl rfl (Nat.le_of_ble_eq_true rfl) dn_B_init_28 (fun H locs hP hD hS => ?_)
  have hP : va_P D classes ((h0, .inr (3, [.ref q1, .ref q2, .ref q3, .null, .null, .null, .null, .int 0])) :: w3) H := hP
  have hD : va_D A ((h0, .inr (3, [.ref q1, .ref q2, .ref q3, .null, .null, .null, .null, .int 0])) :: w3) := hD
  refine lv_aload_n hx hb dn_B_init_31 rfl (lv_at hl 0 rfl) ?_
  refine lv_iconst (v := 4) hx hb dn_B_init_32 (by decide) ?_
  refine n_newL hx hb (hts _ wd36) hK hP hD hS hA 4 (by decide) (by decide) (by decide) (Nat.le_of_ble_eq_true rfl) (Nat.le_of_ble_eq_true rfl) dn_B_init_33 (fun q4 H hP hD hS => ?_)
  obtain ⟨w4, hw4⟩ : ∃ w : va_W, w = w3 ++ [(q4, .inl (κ.2.2.1, zl 4))] := ⟨_, rfl⟩
  have hP : va_P D classes ((h0, .inr (3, [.ref q1, .ref q2, .ref q3, .null, .null, .null, .null, .int 0])) :: w4) H := by rw [hw4]; exact hP
  have hD : va_D A ((h0, .inr (3, [.ref q1, .ref q2, .ref q3, .null, .null, .null, .null, .int 0])) :: w4) := by rw [hw4]; exact hD
  refine va_putF (D := D) (ci := 3) (v := .ref q4) (ty := tyB 3) (C := RB) (T := TB) (N := 8) hx hb hts wsB_ok tyB tyB_ok nmB hown hK hP hD hS 0 rfl rfl 3 (by decide) (hts _ wd47) (fun _ h9 => h9) rfl hin rfl (tyB_ok 3 (by decide)) rfl rfl (Nat.le_of_ble_eq_true rfl) dn_B_init_35 (fun H locs hP hD hS => ?_)
  have hP : va_P D classes ((h0, .inr (3, [.ref q1, .ref q2, .ref q3, .ref q4, .null, .null, .null, .int 0])) :: w4) H := hP
  have hD : va_D A ((h0, .inr (3, [.ref q1, .ref q2, .ref q3, .ref q4, .null, .null, .null, .int 0])) :: w4) := hD
  refine lv_aload_n hx hb dn_B_init_38 rfl (lv_at hl 0 rfl) ?_
  refine lv_iconst (v := 5) hx hb dn_B_init_39 (by decide) ?_
  refine lv_iconst (v := 4) hx hb dn_B_init_40 (by decide) ?_
  refine n_mna hx hb hown (hts _ wd43) hO (hts _ wd36) hK hP hD hS hA 5 4 (by decide) (by decide) (by decide) (by decide) (by decide) (by decide) (by decide) (Nat.le_of_ble_eq_true rfl) (Nat.le_of_ble_eq_true rfl) dn_B_init_41 (fun q5 r5 H hP hD hS => ?_)
  obtain ⟨w5, hw5⟩ : ∃ w : va_W, w = w4 ++ blk κ 5 4 q5 r5 := ⟨_, rfl⟩
  have hP : va_P D classes ((h0, .inr (3, [.ref q1, .ref q2, .ref q3, .ref q4, .null, .null, .null, .int 0])) :: w5) H := by rw [hw5]; exact hP
  have hD : va_D A ((h0, .inr (3, [.ref q1, .ref q2, .ref q3, .ref q4, .null, .null, .null, .int 0])) :: w5) := by rw [hw5]; exact hD
  refine va_putF (D := D) (ci := 3) (v := .ref q5) (ty := tyB 4) (C := RB) (T := TB) (N := 8) hx hb hts wsB_ok tyB tyB_ok nmB hown hK hP hD hS 0 rfl rfl 4 (by decide) (hts _ wd48) (fun _ h9 => h9) rfl hin rfl (tyB_ok 4 (by decide)) rfl rfl (Nat.le_of_ble_eq_true rfl) dn_B_init_45 (fun H locs hP hD hS => ?_)
  have hP : va_P D classes ((h0, .inr (3, [.ref q1, .ref q2, .ref q3, .ref q4, .ref q5, .null, .null, .int 0])) :: w5) H := hP
  have hD : va_D A ((h0, .inr (3, [.ref q1, .ref q2, .ref q3, .ref q4, .ref q5, .null, .null, .int 0])) :: w5) := hD
  refine lv_aload_n hx hb dn_B_init_48 rfl (lv_at hl 0 rfl) ?_
  refine lv_iconst (v := 4) hx hb dn_B_init_49 (by decide) ?_
  refine lv_iconst (v := 4) hx hb dn_B_init_50 (by decide) ?_
  refine n_mna hx hb hown (hts _ wd43) hO (hts _ wd36) hK hP hD hS hA 4 4 (by decide) (by decide) (by decide) (by decide) (by decide) (by decide) (by decide) (Nat.le_of_ble_eq_true rfl) (Nat.le_of_ble_eq_true rfl) dn_B_init_51 (fun q6 r6 H hP hD hS => ?_)
  obtain ⟨w6, hw6⟩ : ∃ w : va_W, w = w5 ++ blk κ 4 4 q6 r6 := ⟨_, rfl⟩
  have hP : va_P D classes ((h0, .inr (3, [.ref q1, .ref q2, .ref q3, .ref q4, .ref q5, .null, .null, .int 0])) :: w6) H := by rw [hw6]; exact hP
  have hD : va_D A ((h0, .inr (3, [.ref q1, .ref q2, .ref q3, .ref q4, .ref q5, .null, .null, .int 0])) :: w6) := by rw [hw6]; exact hD
  refine va_putF (D := D) (ci := 3) (v := .ref q6) (ty := tyB 5) (C := RB) (T := TB) (N := 8) hx hb hts wsB_ok tyB tyB_ok nmB hown hK hP hD hS 0 rfl rfl 5 (by decide) (hts _ wd49) (fun _ h9 => h9) rfl hin rfl (tyB_ok 5 (by decide)) rfl rfl (Nat.le_of_ble_eq_true rfl) dn_B_init_55 (fun H locs hP hD hS => ?_)
  have hP : va_P D classes ((h0, .inr (3, [.ref q1, .ref q2, .ref q3, .ref q4, .ref q5, .ref q6, .null, .int 0])) :: w6) H := hP
  have hD : va_D A ((h0, .inr (3, [.ref q1, .ref q2, .ref q3, .ref q4, .ref q5, .ref q6, .null, .int 0])) :: w6) := hD
  refine lv_aload_n hx hb dn_B_init_58 rfl (lv_at hl 0 rfl) ?_
  refine lv_iconst (v := 4) hx hb dn_B_init_59 (by decide) ?_
  refine n_newL hx hb (hts _ wd36) hK hP hD hS hA 4 (by decide) (by decide) (by decide) (Nat.le_of_ble_eq_true rfl) (Nat.le_of_ble_eq_true rfl) dn_B_init_60 (fun q7 H hP hD hS => ?_)
  obtain ⟨w7, hw7⟩ : ∃ w : va_W, w = w6 ++ [(q7, .inl (κ.2.2.1, zl 4))] := ⟨_, rfl⟩
  have hP : va_P D classes ((h0, .inr (3, [.ref q1, .ref q2, .ref q3, .ref q4, .ref q5, .ref q6, .null, .int 0])) :: w7) H := by rw [hw7]; exact hP
  have hD : va_D A ((h0, .inr (3, [.ref q1, .ref q2, .ref q3, .ref q4, .ref q5, .ref q6, .null, .int 0])) :: w7) := by rw [hw7]; exact hD
  refine va_putF (D := D) (ci := 3) (v := .ref q7) (ty := tyB 6) (C := RB) (T := TB) (N := 8) hx hb hts wsB_ok tyB tyB_ok nmB hown hK hP hD hS 0 rfl rfl 6 (by decide) (hts _ wd50) (fun _ h9 => h9) rfl hin rfl (tyB_ok 6 (by decide)) rfl rfl (Nat.le_of_ble_eq_true rfl) dn_B_init_62 (fun H locs hP hD hS => ?_)
  have hP : va_P D classes ((h0, .inr (3, [.ref q1, .ref q2, .ref q3, .ref q4, .ref q5, .ref q6, .ref q7, .int 0])) :: w7) H := hP
  have hD : va_D A ((h0, .inr (3, [.ref q1, .ref q2, .ref q3, .ref q4, .ref q5, .ref q6, .ref q7, .int 0])) :: w7) := hD
  refine W.widen (k := 24) (n := 97) (Nat.le_of_ble_eq_true rfl) (Nat.le_of_ble_eq_true rfl) ?_
  subst hw7
  subst hw6
  subst hw5
  subst hw4
  subst hw3
  subst hw2
  subst hw1
  have hfin : (fun ws : va_W => ∃ h, h 0 = h0 ∧ ws = wn 25 h (segL (g_B (kh 38 h κ) (fun _ _ => 0) (fun _ _ => 0) (fun _ => 0) (fun _ => 0) (fun _ _ => 0) (fun _ _ => 0) (fun _ => 0) 0))) (((h0, .inr (3, [.ref q1, .ref q2, .ref q3, .ref q4, .ref q5, .ref q6, .ref q7, .int 0])) :: ([] ++ blk κ 4 4 q1 r1 ++ blk κ 4 4 q2 r2 ++ [(q3, .inl (κ.2.2.1, zl 4))] ++ [(q4, .inl (κ.2.2.1, zl 4))] ++ blk κ 5 4 q5 r5 ++ blk κ 4 4 q6 r6 ++ [(q7, .inl (κ.2.2.1, zl 4))])) : va_W) := ⟨hseg [(1, fun _ => h0), (1, fun _ => q1), (4, r1), (1, fun _ => q2), (4, r2), (1, fun _ => q3), (1, fun _ => q4), (1, fun _ => q5), (5, r5), (1, fun _ => q6), (4, r6), (1, fun _ => q7)], rfl, by
    rw [blk_og (κ := kh 38 (hseg [(1, fun _ => h0), (1, fun _ => q1), (4, r1), (1, fun _ => q2), (4, r2), (1, fun _ => q3), (1, fun _ => q4), (1, fun _ => q5), (5, r5), (1, fun _ => q6), (4, r6), (1, fun _ => q7)]) κ) (b := 40) (r := r1) (N := 4) (fun i hi => by
      show hseg _ (40 + i - 38) = _
      rw [show 40 + i - 38 = 2 + i by omega]
      rw [show 2 + i = 1 + (1 + i) by omega, hseg_ge]
      rw [show 1 + i = 1 + i from rfl, hseg_ge]
      exact hseg_lt hi) κ rfl]
    rw [blk_og (κ := kh 38 (hseg [(1, fun _ => h0), (1, fun _ => q1), (4, r1), (1, fun _ => q2), (4, r2), (1, fun _ => q3), (1, fun _ => q4), (1, fun _ => q5), (5, r5), (1, fun _ => q6), (4, r6), (1, fun _ => q7)]) κ) (b := 45) (r := r2) (N := 4) (fun i hi => by
      show hseg _ (45 + i - 38) = _
      rw [show 45 + i - 38 = 7 + i by omega]
      rw [show 7 + i = 1 + (6 + i) by omega, hseg_ge]
      rw [show 6 + i = 1 + (5 + i) by omega, hseg_ge]
      rw [show 5 + i = 4 + (1 + i) by omega, hseg_ge]
      rw [show 1 + i = 1 + i from rfl, hseg_ge]
      exact hseg_lt hi) κ rfl]
    rw [blk_og (κ := kh 38 (hseg [(1, fun _ => h0), (1, fun _ => q1), (4, r1), (1, fun _ => q2), (4, r2), (1, fun _ => q3), (1, fun _ => q4), (1, fun _ => q5), (5, r5), (1, fun _ => q6), (4, r6), (1, fun _ => q7)]) κ) (b := 52) (r := r5) (N := 5) (fun i hi => by
      show hseg _ (52 + i - 38) = _
      rw [show 52 + i - 38 = 14 + i by omega]
      rw [show 14 + i = 1 + (13 + i) by omega, hseg_ge]
      rw [show 13 + i = 1 + (12 + i) by omega, hseg_ge]
      rw [show 12 + i = 4 + (8 + i) by omega, hseg_ge]
      rw [show 8 + i = 1 + (7 + i) by omega, hseg_ge]
      rw [show 7 + i = 4 + (3 + i) by omega, hseg_ge]
      rw [show 3 + i = 1 + (2 + i) by omega, hseg_ge]
      rw [show 2 + i = 1 + (1 + i) by omega, hseg_ge]
      rw [show 1 + i = 1 + i from rfl, hseg_ge]
      exact hseg_lt hi) κ rfl]
    rw [blk_og (κ := kh 38 (hseg [(1, fun _ => h0), (1, fun _ => q1), (4, r1), (1, fun _ => q2), (4, r2), (1, fun _ => q3), (1, fun _ => q4), (1, fun _ => q5), (5, r5), (1, fun _ => q6), (4, r6), (1, fun _ => q7)]) κ) (b := 58) (r := r6) (N := 4) (fun i hi => by
      show hseg _ (58 + i - 38) = _
      rw [show 58 + i - 38 = 20 + i by omega]
      rw [show 20 + i = 1 + (19 + i) by omega, hseg_ge]
      rw [show 19 + i = 1 + (18 + i) by omega, hseg_ge]
      rw [show 18 + i = 4 + (14 + i) by omega, hseg_ge]
      rw [show 14 + i = 1 + (13 + i) by omega, hseg_ge]
      rw [show 13 + i = 4 + (9 + i) by omega, hseg_ge]
      rw [show 9 + i = 1 + (8 + i) by omega, hseg_ge]
      rw [show 8 + i = 1 + (7 + i) by omega, hseg_ge]
      rw [show 7 + i = 1 + (6 + i) by omega, hseg_ge]
      rw [show 6 + i = 5 + (1 + i) by omega, hseg_ge]
      rw [show 1 + i = 1 + i from rfl, hseg_ge]
      exact hseg_lt hi) κ rfl]
    simp only [List.append_assoc, List.cons_append, List.nil_append]
    rfl⟩
  exact W.vret hx hb hr (fun t ht hW => ⟨⟨_, rfl, hfin, by rw [ht]; exact hP, hD⟩, hS.F ht⟩) hS.2.2 dn_B_init_65
theorem dn_T_init_0 : decode cT_init 0 = .ok (.aload_n 0, 1) := by decide +kernel
theorem dn_T_init_1 : decode cT_init 1 = .ok (.invokespecial 3, 3) := by decide +kernel
theorem dn_T_init_4 : decode cT_init 4 = .ok (.aload_n 0, 1) := by decide +kernel
theorem dn_T_init_5 : decode cT_init 5 = .ok (.bipush 41, 2) := by decide +kernel
theorem dn_T_init_7 : decode cT_init 7 = .ok (.newarray .int, 2) := by decide +kernel
theorem dn_T_init_9 : decode cT_init 9 = .ok (.putfield 9, 3) := by decide +kernel
theorem dn_T_init_12 : decode cT_init 12 = .ok (.return_, 1) := by decide +kernel
set_option maxHeartbeats 4000000 in
set_option maxRecDepth 100000 in
theorem mn_T_init (κ : ctx) (h0 : Nat) : MtN yT_init cT_init 1 ({ frames := 2, cells := 2, slots := 45, locals := 100 }) κ h0 (.inr (4, [.null, .long 0, .null])) 2 45 (fun ws => ∃ h, h 0 = h0 ∧ ws = wn 3 h (segL (g_T (kh 63 h κ) (fun _ => 0) 0 (fun _ => 0)))) := by
  intro l D sz
  refine Met.ofW (cc := cT_init) (maxL := 1) (ret := none) (by decide) rfl ?_
  intro p e s m args below meth c s₁ B hml hv
  obtain ⟨rfl, hsz, hP, hK, hNS, hO, hD0⟩ := hv
  have hx := B.exec
  have hb := B.bytes
  have hr := B.returns
  have hts0 := atoms_spec (ws := uw yT_init cT_init 1 none) B.pre
  have hts : ∀ w ∈ utbl, w.before #[Value.ref h0] s = true := fun w hw => hts0 w (List.mem_cons_of_mem _ hw)
  have hown : s.vm.findClass "ShortVectors$Tally" = some m.cls := findClass_of_methodNamed B.named
  have hlocks := B.notSynchronized
  have hin : meth.name = "<init>" := (name_of_methodNamed B.named B.method).1
  subst hsz
  have hD := hD0.self (sz := s.heap.size)
  generalize hAe : va_A [(h0, .inr (4, [.null, .long 0, .null]))] s.heap.size = A at hD ⊢
  have hA : ∀ q : Nat, s.heap.size ≤ q → A q := fun q h => by rw [← hAe]; exact Or.inr h
  have hS : va_S A s.heap s.heap [] := va_S.rf
  have hl := lv_entry ([.ref h0]) (n := 1) (Nat.le_of_ble_eq_true rfl)
  rw [lg_entry_eq]
  generalize (lg_sl ([.ref h0]) ++ List.replicate (1 - (lg_sl ([.ref h0])).length) Slot.unset).toArray = ls at hl ⊢
  have hl : lv_has ls 1 [(0, .ref h0)] := hl
  refine lv_aload_n hx hb dn_T_init_0 rfl (lv_at hl 0 rfl) ?_
  have hP : va_P D classes ([] ++ [(h0, .inr (4, [.null, .long 0, .null]))]) s.heap := hP
  have hD : va_D A ([] ++ [(h0, .inr (4, [.null, .long 0, .null]))]) := hD
  refine n_callN hx hb hml hown hts hK hNS hO hP hD hS hA hl (mn_K_initT κ h0) ⟨wd76, wd4, ⟨by decide, by decide, by decide⟩, rfl, rfl, Nat.le_of_ble_eq_true rfl, Nat.le_of_ble_eq_true rfl⟩ rfl wd75 wd74 (Nat.le_of_ble_eq_true rfl) dn_T_init_1 (Nat.le_of_ble_eq_true rfl) (Nat.le_of_ble_eq_true rfl) (fun w1 H locs hw hP hD hS => ?_)
  obtain ⟨q0, rfl⟩ := hw
  obtain ⟨w1, hw1⟩ : ∃ w : va_W, w = [] ++ [(q0, .inl (κ.2.2.1, zl 4))] := ⟨_, rfl⟩
  have hP : va_P D classes ((h0, .inr (4, [.ref q0, .long 0, .null])) :: w1) H := by rw [hw1]; exact hP
  have hD : va_D A ((h0, .inr (4, [.ref q0, .long 0, .null])) :: w1) := by rw [hw1]; exact hD
  refine lv_aload_n hx hb dn_T_init_4 rfl (lv_at hl 0 rfl) ?_
  refine lv_bipush (v := 41) hx hb dn_T_init_5 (by decide) ?_
  refine n_newI hx hb (hts _ wd88) hK hP hD hS hA 41 (by decide) (by decide) (by decide) (Nat.le_of_ble_eq_true rfl) (Nat.le_of_ble_eq_true rfl) dn_T_init_7 (fun q1 H hP hD hS => ?_)
  obtain ⟨w2, hw2⟩ : ∃ w : va_W, w = w1 ++ [(q1, .inl (κ.2.1, zi 41))] := ⟨_, rfl⟩
  have hP : va_P D classes ((h0, .inr (4, [.ref q0, .long 0, .null])) :: w2) H := by rw [hw2]; exact hP
  have hD : va_D A ((h0, .inr (4, [.ref q0, .long 0, .null])) :: w2) := by rw [hw2]; exact hD
  refine va_putF (D := D) (ci := 4) (v := .ref q1) (ty := tyT 2) (C := RT) (T := TT) (N := 3) hx hb hts wsT_ok tyT tyT_ok nmT hown hK hP hD hS 0 rfl rfl 2 (by decide) (hts _ wd78) (fun _ h9 => h9) rfl hin rfl (tyT_ok 2 (by decide)) rfl rfl (Nat.le_of_ble_eq_true rfl) dn_T_init_9 (fun H locs hP hD hS => ?_)
  have hP : va_P D classes ((h0, .inr (4, [.ref q0, .long 0, .ref q1])) :: w2) H := hP
  have hD : va_D A ((h0, .inr (4, [.ref q0, .long 0, .ref q1])) :: w2) := hD
  refine W.widen (k := 2) (n := 45) (Nat.le_of_ble_eq_true rfl) (Nat.le_of_ble_eq_true rfl) ?_
  subst hw2
  subst hw1
  have hfin : (fun ws : va_W => ∃ h, h 0 = h0 ∧ ws = wn 3 h (segL (g_T (kh 63 h κ) (fun _ => 0) 0 (fun _ => 0)))) (((h0, .inr (4, [.ref q0, .long 0, .ref q1])) :: ([] ++ [(q0, .inl (κ.2.2.1, zl 4))] ++ [(q1, .inl (κ.2.1, zi 41))])) : va_W) := ⟨hseg [(1, fun _ => h0), (1, fun _ => q0), (1, fun _ => q1)], rfl, by
    simp only [List.append_assoc, List.cons_append, List.nil_append]
    rfl⟩
  exact W.vret hx hb hr (fun t ht hW => ⟨⟨_, rfl, hfin, by rw [ht]; exact hP, hD⟩, hS.F ht⟩) hS.2.2 dn_T_init_12
theorem dn_F_init_0 : decode cF_init 0 = .ok (.aload_n 0, 1) := by decide +kernel
theorem dn_F_init_1 : decode cF_init 1 = .ok (.invokespecial 3, 3) := by decide +kernel
theorem dn_F_init_4 : decode cF_init 4 = .ok (.aload_n 0, 1) := by decide +kernel
theorem dn_F_init_5 : decode cF_init 5 = .ok (.bipush 41, 2) := by decide +kernel
theorem dn_F_init_7 : decode cF_init 7 = .ok (.iconst 4, 1) := by decide +kernel
theorem dn_F_init_8 : decode cF_init 8 = .ok (.multianewarray 9 2, 4) := by decide +kernel
theorem dn_F_init_12 : decode cF_init 12 = .ok (.putfield 11, 3) := by decide +kernel
theorem dn_F_init_15 : decode cF_init 15 = .ok (.aload_n 0, 1) := by decide +kernel
theorem dn_F_init_16 : decode cF_init 16 = .ok (.bipush 41, 2) := by decide +kernel
theorem dn_F_init_18 : decode cF_init 18 = .ok (.newarray .long, 2) := by decide +kernel
theorem dn_F_init_20 : decode cF_init 20 = .ok (.putfield 16, 3) := by decide +kernel
theorem dn_F_init_23 : decode cF_init 23 = .ok (.return_, 1) := by decide +kernel
set_option maxHeartbeats 4000000 in
set_option maxRecDepth 100000 in
theorem mn_F_init (κ : ctx) (h0 : Nat) : MtN yF_init cF_init 1 ({ frames := 2, cells := 44, slots := 250, locals := 100 }) κ h0 (.inr (5, [.null, .long 0, .null, .null, .int 0])) 44 250 (fun ws => ∃ h, h 0 = h0 ∧ ws = wn 45 h (segL (g_F (kh 66 h κ) (fun _ => 0) 0 (fun _ _ => 0) (fun _ => 0) 0))) := by
  intro l D sz
  refine Met.ofW (cc := cF_init) (maxL := 1) (ret := none) (by decide) rfl ?_
  intro p e s m args below meth c s₁ B hml hv
  obtain ⟨rfl, hsz, hP, hK, hNS, hO, hD0⟩ := hv
  have hx := B.exec
  have hb := B.bytes
  have hr := B.returns
  have hts0 := atoms_spec (ws := uw yF_init cF_init 1 none) B.pre
  have hts : ∀ w ∈ utbl, w.before #[Value.ref h0] s = true := fun w hw => hts0 w (List.mem_cons_of_mem _ hw)
  have hown : s.vm.findClass "ShortVectors$FirstVectors" = some m.cls := findClass_of_methodNamed B.named
  have hlocks := B.notSynchronized
  have hin : meth.name = "<init>" := (name_of_methodNamed B.named B.method).1
  subst hsz
  have hD := hD0.self (sz := s.heap.size)
  generalize hAe : va_A [(h0, .inr (5, [.null, .long 0, .null, .null, .int 0]))] s.heap.size = A at hD ⊢
  have hA : ∀ q : Nat, s.heap.size ≤ q → A q := fun q h => by rw [← hAe]; exact Or.inr h
  have hS : va_S A s.heap s.heap [] := va_S.rf
  have hl := lv_entry ([.ref h0]) (n := 1) (Nat.le_of_ble_eq_true rfl)
  rw [lg_entry_eq]
  generalize (lg_sl ([.ref h0]) ++ List.replicate (1 - (lg_sl ([.ref h0])).length) Slot.unset).toArray = ls at hl ⊢
  have hl : lv_has ls 1 [(0, .ref h0)] := hl
  refine lv_aload_n hx hb dn_F_init_0 rfl (lv_at hl 0 rfl) ?_
  have hP : va_P D classes ([] ++ [(h0, .inr (5, [.null, .long 0, .null, .null, .int 0]))]) s.heap := hP
  have hD : va_D A ([] ++ [(h0, .inr (5, [.null, .long 0, .null, .null, .int 0]))]) := hD
  refine n_callN hx hb hml hown hts hK hNS hO hP hD hS hA hl (mn_K_initF κ h0) ⟨wd76, wd4, ⟨by decide, by decide, by decide⟩, rfl, rfl, Nat.le_of_ble_eq_true rfl, Nat.le_of_ble_eq_true rfl⟩ rfl wd75 wd94 (Nat.le_of_ble_eq_true rfl) dn_F_init_1 (Nat.le_of_ble_eq_true rfl) (Nat.le_of_ble_eq_true rfl) (fun w1 H locs hw hP hD hS => ?_)
  obtain ⟨q0, rfl⟩ := hw
  obtain ⟨w1, hw1⟩ : ∃ w : va_W, w = [] ++ [(q0, .inl (κ.2.2.1, zl 4))] := ⟨_, rfl⟩
  have hP : va_P D classes ((h0, .inr (5, [.ref q0, .long 0, .null, .null, .int 0])) :: w1) H := by rw [hw1]; exact hP
  have hD : va_D A ((h0, .inr (5, [.ref q0, .long 0, .null, .null, .int 0])) :: w1) := by rw [hw1]; exact hD
  refine lv_aload_n hx hb dn_F_init_4 rfl (lv_at hl 0 rfl) ?_
  refine lv_bipush (v := 41) hx hb dn_F_init_5 (by decide) ?_
  refine lv_iconst (v := 4) hx hb dn_F_init_7 (by decide) ?_
  refine n_mna hx hb hown (hts _ wd95) hO (hts _ wd36) hK hP hD hS hA 41 4 (by decide) (by decide) (by decide) (by decide) (by decide) (by decide) (by decide) (Nat.le_of_ble_eq_true rfl) (Nat.le_of_ble_eq_true rfl) dn_F_init_8 (fun q1 r1 H hP hD hS => ?_)
  obtain ⟨w2, hw2⟩ : ∃ w : va_W, w = w1 ++ blk κ 41 4 q1 r1 := ⟨_, rfl⟩
  have hP : va_P D classes ((h0, .inr (5, [.ref q0, .long 0, .null, .null, .int 0])) :: w2) H := by rw [hw2]; exact hP
  have hD : va_D A ((h0, .inr (5, [.ref q0, .long 0, .null, .null, .int 0])) :: w2) := by rw [hw2]; exact hD
  refine va_putF (D := D) (ci := 5) (v := .ref q1) (ty := tyF 2) (C := RF) (T := TF) (N := 5) hx hb hts wsF_ok tyF tyF_ok nmF hown hK hP hD hS 0 rfl rfl 2 (by decide) (hts _ wd96) (fun _ h9 => h9) rfl hin rfl (tyF_ok 2 (by decide)) rfl rfl (Nat.le_of_ble_eq_true rfl) dn_F_init_12 (fun H locs hP hD hS => ?_)
  have hP : va_P D classes ((h0, .inr (5, [.ref q0, .long 0, .ref q1, .null, .int 0])) :: w2) H := hP
  have hD : va_D A ((h0, .inr (5, [.ref q0, .long 0, .ref q1, .null, .int 0])) :: w2) := hD
  refine lv_aload_n hx hb dn_F_init_15 rfl (lv_at hl 0 rfl) ?_
  refine lv_bipush (v := 41) hx hb dn_F_init_16 (by decide) ?_
  refine n_newL hx hb (hts _ wd36) hK hP hD hS hA 41 (by decide) (by decide) (by decide) (Nat.le_of_ble_eq_true rfl) (Nat.le_of_ble_eq_true rfl) dn_F_init_18 (fun q2 H hP hD hS => ?_)
  obtain ⟨w3, hw3⟩ : ∃ w : va_W, w = w2 ++ [(q2, .inl (κ.2.2.1, zl 41))] := ⟨_, rfl⟩
  have hP : va_P D classes ((h0, .inr (5, [.ref q0, .long 0, .ref q1, .null, .int 0])) :: w3) H := by rw [hw3]; exact hP
  have hD : va_D A ((h0, .inr (5, [.ref q0, .long 0, .ref q1, .null, .int 0])) :: w3) := by rw [hw3]; exact hD
  refine va_putF (D := D) (ci := 5) (v := .ref q2) (ty := tyF 3) (C := RF) (T := TF) (N := 5) hx hb hts wsF_ok tyF tyF_ok nmF hown hK hP hD hS 0 rfl rfl 3 (by decide) (hts _ wd97) (fun _ h9 => h9) rfl hin rfl (tyF_ok 3 (by decide)) rfl rfl (Nat.le_of_ble_eq_true rfl) dn_F_init_20 (fun H locs hP hD hS => ?_)
  have hP : va_P D classes ((h0, .inr (5, [.ref q0, .long 0, .ref q1, .ref q2, .int 0])) :: w3) H := hP
  have hD : va_D A ((h0, .inr (5, [.ref q0, .long 0, .ref q1, .ref q2, .int 0])) :: w3) := hD
  refine W.widen (k := 44) (n := 250) (Nat.le_of_ble_eq_true rfl) (Nat.le_of_ble_eq_true rfl) ?_
  subst hw3
  subst hw2
  subst hw1
  have hfin : (fun ws : va_W => ∃ h, h 0 = h0 ∧ ws = wn 45 h (segL (g_F (kh 66 h κ) (fun _ => 0) 0 (fun _ _ => 0) (fun _ => 0) 0))) (((h0, .inr (5, [.ref q0, .long 0, .ref q1, .ref q2, .int 0])) :: ([] ++ [(q0, .inl (κ.2.2.1, zl 4))] ++ blk κ 41 4 q1 r1 ++ [(q2, .inl (κ.2.2.1, zl 41))])) : va_W) := ⟨hseg [(1, fun _ => h0), (1, fun _ => q0), (1, fun _ => q1), (41, r1), (1, fun _ => q2)], rfl, by
    rw [blk_og (κ := kh 66 (hseg [(1, fun _ => h0), (1, fun _ => q0), (1, fun _ => q1), (41, r1), (1, fun _ => q2)]) κ) (b := 69) (r := r1) (N := 41) (fun i hi => by
      show hseg _ (69 + i - 66) = _
      rw [show 69 + i - 66 = 3 + i by omega]
      rw [show 3 + i = 1 + (2 + i) by omega, hseg_ge]
      rw [show 2 + i = 1 + (1 + i) by omega, hseg_ge]
      rw [show 1 + i = 1 + i from rfl, hseg_ge]
      exact hseg_lt hi) κ rfl]
    simp only [List.append_assoc, List.cons_append, List.nil_append]
    rfl⟩
  exact W.vret hx hb hr (fun t ht hW => ⟨⟨_, rfl, hfin, by rw [ht]; exact hP, hD⟩, hS.F ht⟩) hS.2.2 dn_F_init_23
theorem dn_C_init_0 : decode cC_init 0 = .ok (.aload_n 0, 1) := by decide +kernel
theorem dn_C_init_1 : decode cC_init 1 = .ok (.invokespecial 3, 3) := by decide +kernel
theorem dn_C_init_4 : decode cC_init 4 = .ok (.aload_n 0, 1) := by decide +kernel
theorem dn_C_init_5 : decode cC_init 5 = .ok (.iconst 4, 1) := by decide +kernel
theorem dn_C_init_6 : decode cC_init 6 = .ok (.newarray .long, 2) := by decide +kernel
theorem dn_C_init_8 : decode cC_init 8 = .ok (.putfield 9, 3) := by decide +kernel
theorem dn_C_init_11 : decode cC_init 11 = .ok (.return_, 1) := by decide +kernel
set_option maxHeartbeats 4000000 in
set_option maxRecDepth 100000 in
theorem mn_C_init (κ : ctx) (h0 : Nat) : MtN yC_init cC_init 1 ({ frames := 2, cells := 2, slots := 8, locals := 100 }) κ h0 (.inr (6, [.null, .long 0, .null, .long 0])) 2 8 (fun ws => ∃ h, h 0 = h0 ∧ ws = wn 3 h (segL (g_C (kh 111 h κ) (fun _ => 0) 0 (fun _ => 0) 0))) := by
  intro l D sz
  refine Met.ofW (cc := cC_init) (maxL := 1) (ret := none) (by decide) rfl ?_
  intro p e s m args below meth c s₁ B hml hv
  obtain ⟨rfl, hsz, hP, hK, hNS, hO, hD0⟩ := hv
  have hx := B.exec
  have hb := B.bytes
  have hr := B.returns
  have hts0 := atoms_spec (ws := uw yC_init cC_init 1 none) B.pre
  have hts : ∀ w ∈ utbl, w.before #[Value.ref h0] s = true := fun w hw => hts0 w (List.mem_cons_of_mem _ hw)
  have hown : s.vm.findClass "ShortVectors$Closest" = some m.cls := findClass_of_methodNamed B.named
  have hlocks := B.notSynchronized
  have hin : meth.name = "<init>" := (name_of_methodNamed B.named B.method).1
  subst hsz
  have hD := hD0.self (sz := s.heap.size)
  generalize hAe : va_A [(h0, .inr (6, [.null, .long 0, .null, .long 0]))] s.heap.size = A at hD ⊢
  have hA : ∀ q : Nat, s.heap.size ≤ q → A q := fun q h => by rw [← hAe]; exact Or.inr h
  have hS : va_S A s.heap s.heap [] := va_S.rf
  have hl := lv_entry ([.ref h0]) (n := 1) (Nat.le_of_ble_eq_true rfl)
  rw [lg_entry_eq]
  generalize (lg_sl ([.ref h0]) ++ List.replicate (1 - (lg_sl ([.ref h0])).length) Slot.unset).toArray = ls at hl ⊢
  have hl : lv_has ls 1 [(0, .ref h0)] := hl
  refine lv_aload_n hx hb dn_C_init_0 rfl (lv_at hl 0 rfl) ?_
  have hP : va_P D classes ([] ++ [(h0, .inr (6, [.null, .long 0, .null, .long 0]))]) s.heap := hP
  have hD : va_D A ([] ++ [(h0, .inr (6, [.null, .long 0, .null, .long 0]))]) := hD
  refine n_callN hx hb hml hown hts hK hNS hO hP hD hS hA hl (mn_K_initC κ h0) ⟨wd76, wd4, ⟨by decide, by decide, by decide⟩, rfl, rfl, Nat.le_of_ble_eq_true rfl, Nat.le_of_ble_eq_true rfl⟩ rfl wd75 wd113 (Nat.le_of_ble_eq_true rfl) dn_C_init_1 (Nat.le_of_ble_eq_true rfl) (Nat.le_of_ble_eq_true rfl) (fun w1 H locs hw hP hD hS => ?_)
  obtain ⟨q0, rfl⟩ := hw
  obtain ⟨w1, hw1⟩ : ∃ w : va_W, w = [] ++ [(q0, .inl (κ.2.2.1, zl 4))] := ⟨_, rfl⟩
  have hP : va_P D classes ((h0, .inr (6, [.ref q0, .long 0, .null, .long 0])) :: w1) H := by rw [hw1]; exact hP
  have hD : va_D A ((h0, .inr (6, [.ref q0, .long 0, .null, .long 0])) :: w1) := by rw [hw1]; exact hD
  refine lv_aload_n hx hb dn_C_init_4 rfl (lv_at hl 0 rfl) ?_
  refine lv_iconst (v := 4) hx hb dn_C_init_5 (by decide) ?_
  refine n_newL hx hb (hts _ wd36) hK hP hD hS hA 4 (by decide) (by decide) (by decide) (Nat.le_of_ble_eq_true rfl) (Nat.le_of_ble_eq_true rfl) dn_C_init_6 (fun q1 H hP hD hS => ?_)
  obtain ⟨w2, hw2⟩ : ∃ w : va_W, w = w1 ++ [(q1, .inl (κ.2.2.1, zl 4))] := ⟨_, rfl⟩
  have hP : va_P D classes ((h0, .inr (6, [.ref q0, .long 0, .null, .long 0])) :: w2) H := by rw [hw2]; exact hP
  have hD : va_D A ((h0, .inr (6, [.ref q0, .long 0, .null, .long 0])) :: w2) := by rw [hw2]; exact hD
  refine va_putF (D := D) (ci := 6) (v := .ref q1) (ty := tyC 2) (C := RC) (T := TC) (N := 4) hx hb hts wsC_ok tyC tyC_ok nmC hown hK hP hD hS 0 rfl rfl 2 (by decide) (hts _ wd114) (fun _ h9 => h9) rfl hin rfl (tyC_ok 2 (by decide)) rfl rfl (Nat.le_of_ble_eq_true rfl) dn_C_init_8 (fun H locs hP hD hS => ?_)
  have hP : va_P D classes ((h0, .inr (6, [.ref q0, .long 0, .ref q1, .long 0])) :: w2) H := hP
  have hD : va_D A ((h0, .inr (6, [.ref q0, .long 0, .ref q1, .long 0])) :: w2) := hD
  refine W.widen (k := 2) (n := 8) (Nat.le_of_ble_eq_true rfl) (Nat.le_of_ble_eq_true rfl) ?_
  subst hw2
  subst hw1
  have hfin : (fun ws : va_W => ∃ h, h 0 = h0 ∧ ws = wn 3 h (segL (g_C (kh 111 h κ) (fun _ => 0) 0 (fun _ => 0) 0))) (((h0, .inr (6, [.ref q0, .long 0, .ref q1, .long 0])) :: ([] ++ [(q0, .inl (κ.2.2.1, zl 4))] ++ [(q1, .inl (κ.2.2.1, zl 4))])) : va_W) := ⟨hseg [(1, fun _ => h0), (1, fun _ => q0), (1, fun _ => q1)], rfl, by
    simp only [List.append_assoc, List.cons_append, List.nil_append]
    rfl⟩
  exact W.vret hx hb hr (fun t ht hW => ⟨⟨_, rfl, hfin, by rw [ht]; exact hP, hD⟩, hS.F ht⟩) hS.2.2 dn_C_init_11
