/-! the relation: one array of cells, the same function on both sides, each value 0 or 1 -/
def os_B (a : Nat → Int32) : Prop := ∀ j, a j = 0 ∨ a j = 1
def i_Rel (_ : Nat) (u : SX) (v : SY) : Prop := u = v.1 ∧ os_B u
theorem i_up {k : Nat} {u : SX} {v : SY} (h : i_Rel k u v) : i_Rel (k + 5) u v := h
theorem i_vc0 : wpX_init (fun u => wpY_init (fun v => i_Rel 0 u v)) := And.intro rfl (fun _ => Or.inl rfl)
theorem os_I {k : Nat} {u : SX} {v : SY} (h : i_Rel k u v) : ∃ m, v = (u, m) ∧ os_B u := by
  obtain ⟨a, m⟩ := v
  obtain ⟨e, hB⟩ := h
  have e' : u = a := e
  exact ⟨m, by rw [e'], hB⟩
theorem os_10 : ¬ (1 : Int32) = 0 := by decide
theorem os_n1 {x : Int32} (h : x = 0 ∨ x = 1) : vp_nar .boolean x = x := by
  rcases h with rfl | rfl <;> rfl
theorem os_nb {x : Int32} (h : x = 0 ∨ x = 1) : narrow .boolean (.int x) = .int x := by
  rcases h with rfl | rfl <;> rfl
theorem os_bx (r : Nat) : nI r * 512 = nI (512 * r) := by
  rw [Nat.mul_comm]
  exact pk_mul r 512
theorem os_by (r : Nat) : 512 * nI r = nI (512 * r) := pk_mul 512 r
theorem os_xi {r i : Nat} (hr : r < 4) (hi : i < 512) : (nI (512 * r) + nI i).toNatClampNeg = 512 * r + i := by
  rw [nI_add, nI_clamp (by omega)]
theorem os_yi {r i : Nat} (hr : r < 4) (hi : i < 512) : (512 * nI r + nI i).toNatClampNeg = 512 * r + i := by
  rw [os_by, nI_add, nI_clamp (by omega)]
theorem os_xv {r i : Nat} (hr : r < 4) (hi : i < 512) : vp_in (nI (512 * r) + nI i) 2048 := by
  rw [nI_add]
  exact vp_in_nI (by omega) (by decide)
theorem os_yv {r i : Nat} (hr : r < 4) (hi : i < 512) : vp_in (512 * nI r + nI i) 2048 := by
  rw [os_by, nI_add]
  exact vp_in_nI (by omega) (by decide)
theorem os_xs {post : Int32 → Prop} {r : Nat} (hr : r < 4) (h : post 1) : wpX_isSolid post (nI r) :=
  br_f (nI_pos (by omega)) (br_f (nI_ge (b := 4) hr (by decide)) h)
theorem os_ys {post : Int32 → Prop} {a m : Nat → Int32} {r : Nat} (hr : r < 4) (h : post 1) : wpY_solid post (a, m) (nI r) :=
  br_f (nI_pos (by omega)) (br_f (nI_nlt (a := 3) (by omega) (by decide)) h)
theorem os_xc {post : Int32 → Prop} {r : Nat} (hr : r < 512) (h : post 1) : wpX_isCell post (nI r) :=
  br_f (nI_pos (by omega)) (br_f (nI_ge (b := 512) hr (by decide)) h)
theorem os_yc {post : Int32 → Prop} {a m : Nat → Int32} {r : Nat} (hr : r < 512) (h : post 1) : wpY_cell post (a, m) (nI r) :=
  br_f (nI_pos (by omega)) (br_f (nI_nlt (a := 511) (by omega) (by decide)) h)
theorem os_sol (p : Int32) : (∃ r, r < 4 ∧ p = nI r) ∨ ((∀ post : Int32 → Prop, post 0 → wpX_isSolid post p) ∧ (∀ (post : Int32 → Prop) (a m : Nat → Int32), post 0 → wpY_solid post (a, m) p)) := by
  by_cases h : p < 0
  · exact Or.inr ⟨fun _ hp => br_t h hp, fun _ _ _ hp => br_t h hp⟩
  · obtain ⟨j, hj, rfl⟩ := nI_of h
    by_cases h4 : j < 4
    · exact Or.inl ⟨j, h4, rfl⟩
    · exact Or.inr ⟨fun _ hp => br_f h (br_t (nI_le (a := 4) (by omega) hj) hp), fun _ _ _ hp => br_f h (br_t (nI_lt (a := 3) (by omega) hj) hp)⟩
theorem os_cel (p : Int32) : (∃ r, r < 512 ∧ p = nI r) ∨ ((∀ post : Int32 → Prop, post 0 → wpX_isCell post p) ∧ (∀ (post : Int32 → Prop) (a m : Nat → Int32), post 0 → wpY_cell post (a, m) p)) := by
  by_cases h : p < 0
  · exact Or.inr ⟨fun _ hp => br_t h hp, fun _ _ _ hp => br_t h hp⟩
  · obtain ⟨j, hj, rfl⟩ := nI_of h
    by_cases h4 : j < 512
    · exact Or.inl ⟨j, h4, rfl⟩
    · exact Or.inr ⟨fun _ hp => br_f h (br_t (nI_le (a := 512) (by omega) hj) hp), fun _ _ _ hp => br_f h (br_t (nI_lt (a := 511) (by omega) hj) hp)⟩
theorem os_ge {i : Nat} (h : i = 512) : (512 : Int32) ≤ nI i := nI_le (a := 512) (by omega) (by omega)
theorem os_lt {i : Nat} (h : i < 512) : ¬ (512 : Int32) ≤ nI i := nI_ge (b := 512) h (by decide)
/-! all from i on -/
def os_Al (Q : Nat → Prop) (i N : Nat) : Prop := ∀ j, i ≤ j → j < N → Q j
theorem os_al_s {Q : Nat → Prop} {i N : Nat} (hq : Q i) (h : os_Al Q (i + 1) N) : os_Al Q i N := by
  intro j h1 h2
  by_cases e : j = i
  · rw [e]; exact hq
  · exact h j (by omega) h2
theorem os_al_n {Q : Nat → Prop} {i N : Nat} (h : ¬ os_Al Q (i + 1) N) : ¬ os_Al Q i N :=
  fun g => h (fun j h1 h2 => g j (by omega) h2)
theorem os_al_f {Q : Nat → Prop} {i N : Nat} (hi : i < N) (hq : ¬ Q i) : ¬ os_Al Q i N :=
  fun g => hq (g i (Nat.le_refl i) hi)
theorem os_al_0 {Q : Nat → Prop} {i N : Nat} (h : N ≤ i) : os_Al Q i N := fun j h1 h2 => absurd h2 (by omega)
