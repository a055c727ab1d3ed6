/-! Layer B: lattices of whole vectors with four coordinates, told by generators -/
abbrev Z4 : Type := Int × Int × Int × Int
def z0 : Z4 := (0, 0, 0, 0)
def zadd (u v : Z4) : Z4 := (u.1 + v.1, u.2.1 + v.2.1, u.2.2.1 + v.2.2.1, u.2.2.2 + v.2.2.2)
def zsub (u v : Z4) : Z4 := (u.1 - v.1, u.2.1 - v.2.1, u.2.2.1 - v.2.2.1, u.2.2.2 - v.2.2.2)
def zmul (c : Int) (v : Z4) : Z4 := (c * v.1, c * v.2.1, c * v.2.2.1, c * v.2.2.2)
def zdot (u v : Z4) : Int := u.1 * v.1 + u.2.1 * v.2.1 + u.2.2.1 * v.2.2.1 + u.2.2.2 * v.2.2.2
theorem zext {u v : Z4} (h0 : u.1 = v.1) (h1 : u.2.1 = v.2.1) (h2 : u.2.2.1 = v.2.2.1) (h3 : u.2.2.2 = v.2.2.2) : u = v := Prod.ext h0 (Prod.ext h1 (Prod.ext h2 h3))
/-- all sums of whole multiples -/
def sp : List Z4 → Z4 → Prop
  | [], v => v = z0
  | g :: r, v => ∃ c : Int, sp r (zsub v (zmul c g))
theorem sp_eq {A : List Z4} {u v : Z4} (h : sp A u) (e : u = v) : sp A v := e ▸ h
theorem sp_zero : ∀ A : List Z4, sp A z0
  | [] => rfl
  | g :: r => ⟨0, sp_eq (sp_zero r) (zext (by simp [z0, zsub, zmul]) (by simp [z0, zsub, zmul]) (by simp [z0, zsub, zmul]) (by simp [z0, zsub, zmul]))⟩
theorem sp_add : ∀ {A : List Z4} {u v : Z4}, sp A u → sp A v → sp A (zadd u v)
  | [], u, v, hu, hv => by
    have hu : u = z0 := hu
    have hv : v = z0 := hv
    subst hu; subst hv
    exact rfl
  | g :: r, u, v, ⟨c, hc⟩, ⟨d, hd⟩ => ⟨c + d, sp_eq (sp_add hc hd) (zext (by simp only [zadd, zsub, zmul]; grind) (by simp only [zadd, zsub, zmul]; grind) (by simp only [zadd, zsub, zmul]; grind) (by simp only [zadd, zsub, zmul]; grind))⟩
theorem sp_mul (k : Int) : ∀ {A : List Z4} {u : Z4}, sp A u → sp A (zmul k u)
  | [], u, hu => by
    have hu : u = z0 := hu
    subst hu
    exact zext (by simp [z0, zmul]) (by simp [z0, zmul]) (by simp [z0, zmul]) (by simp [z0, zmul])
  | g :: r, u, ⟨c, hc⟩ => ⟨k * c, sp_eq (sp_mul k hc) (zext (by simp only [zsub, zmul]; grind) (by simp only [zsub, zmul]; grind) (by simp only [zsub, zmul]; grind) (by simp only [zsub, zmul]; grind))⟩
theorem sp_sub {A : List Z4} {u v : Z4} (hu : sp A u) (hv : sp A v) : sp A (zsub u v) :=
  sp_eq (sp_add hu (sp_mul (-1) hv)) (zext (by simp only [zadd, zsub, zmul]; grind) (by simp only [zadd, zsub, zmul]; grind) (by simp only [zadd, zsub, zmul]; grind) (by simp only [zadd, zsub, zmul]; grind))
theorem sp_tail {g : Z4} {r : List Z4} {v : Z4} (h : sp r v) : sp (g :: r) v :=
  ⟨0, sp_eq h (zext (by simp [zsub, zmul]) (by simp [zsub, zmul]) (by simp [zsub, zmul]) (by simp [zsub, zmul]))⟩
theorem sp_head {g : Z4} {r : List Z4} : sp (g :: r) g :=
  ⟨1, sp_eq (sp_zero r) (zext (by simp [z0, zsub, zmul]) (by simp [z0, zsub, zmul]) (by simp [z0, zsub, zmul]) (by simp [z0, zsub, zmul]))⟩
theorem sp_mem : ∀ {A : List Z4} {g : Z4}, g ∈ A → sp A g
  | a :: r, g, h => by
    rcases List.mem_cons.mp h with e | e
    · subst e; exact sp_head
    · exact sp_tail (sp_mem e)
/-- a set that is closed holds all of the lattice of its members -/
theorem sp_ind {P : Z4 → Prop} (h0 : P z0) (ha : ∀ u v, P u → P v → P (zadd u v)) (hm : ∀ (k : Int) u, P u → P (zmul k u)) : ∀ {A : List Z4}, (∀ g ∈ A, P g) → ∀ v, sp A v → P v
  | [], _, v, hv => by
    have hv : v = z0 := hv
    rw [hv]; exact h0
  | g :: r, hA, v, ⟨c, hc⟩ => by
    have h1 := sp_ind h0 ha hm (fun x hx => hA x (List.mem_cons_of_mem _ hx)) _ hc
    have h2 := hm c g (hA g List.mem_cons_self)
    have e : zadd (zsub v (zmul c g)) (zmul c g) = v := zext (by simp only [zadd, zsub, zmul]; omega) (by simp only [zadd, zsub, zmul]; omega) (by simp only [zadd, zsub, zmul]; omega) (by simp only [zadd, zsub, zmul]; omega)
    rw [← e]
    exact ha _ _ h1 h2
theorem sp_sub_of {A B : List Z4} (h : ∀ g ∈ A, sp B g) : ∀ v, sp A v → sp B v := sp_ind (sp_zero B) (fun _ _ a b => sp_add a b) (fun k _ a => sp_mul k a) h
theorem sp_same {A B : List Z4} (h1 : ∀ g ∈ A, sp B g) (h2 : ∀ g ∈ B, sp A g) (v : Z4) : sp A v ↔ sp B v := ⟨sp_sub_of h1 v, sp_sub_of h2 v⟩
