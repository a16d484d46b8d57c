/-! mirror -/
def os_fl (ax : Nat) : Nat := 7 * 8 ^ ax
theorem os_flI : ∀ ax, ax < 3 → (7 : Int32) <<< ((3 * nI ax) &&& 31) = nI (os_fl ax) := by decide +kernel
theorem os_flT : ∀ ax, ax < 3 → ∀ e, e < 512 → e ^^^ os_fl ax < 512 ∧ (e ^^^ os_fl ax) ^^^ os_fl ax = e ∧ e ^^^ os_fl ax ≠ e := by decide +kernel
def os_mir (a : Nat → Int32) (T A f i : Nat) : Nat → Int32 := fun j => if T ≤ j ∧ j < T + 512 ∧ (j - T < i ∨ (j - T) ^^^ f < i) then a (A + ((j - T) ^^^ f)) else a j
theorem os_mirI {a : Nat → Int32} {T A f i j : Nat} (h : T ≤ j ∧ j < T + 512 ∧ (j - T < i ∨ (j - T) ^^^ f < i)) : os_mir a T A f i j = a (A + ((j - T) ^^^ f)) := if_pos h
theorem os_mirO {a : Nat → Int32} {T A f i j : Nat} (h : ¬ (T ≤ j ∧ j < T + 512 ∧ (j - T < i ∨ (j - T) ^^^ f < i))) : os_mir a T A f i j = a j := if_neg h
theorem os_mir0 (a : Nat → Int32) (T A f : Nat) : os_mir a T A f 0 = a := by
  funext j
  exact os_mirO (by omega)
theorem os_mirP (a : Nat → Int32) (T A f : Nat) : os_mir a T A f 512 = os_put a T (fun e => a (A + (e ^^^ f))) 512 := by
  funext j
  by_cases c : T ≤ j ∧ j < T + 512
  · rw [os_putI a _ c, os_mirI ⟨c.1, c.2, Or.inl (by omega)⟩]
  · rw [os_putO a _ c, os_mirO (fun g => c ⟨g.1, g.2.1⟩)]
theorem os_mirC {a : Nat → Int32} {T A f i i' j : Nat} (h : T ≤ j → j < T + 512 → ((j - T < i ∨ (j - T) ^^^ f < i) ↔ (j - T < i' ∨ (j - T) ^^^ f < i'))) : os_mir a T A f i j = os_mir a T A f i' j := by
  by_cases c : T ≤ j ∧ j < T + 512 ∧ (j - T < i ∨ (j - T) ^^^ f < i)
  · rw [os_mirI c, os_mirI ⟨c.1, c.2.1, (h c.1 c.2.1).mp c.2.2⟩]
  · rw [os_mirO c, os_mirO (fun g => c ⟨g.1, g.2.1, (h g.1 g.2.1).mpr g.2.2⟩)]
theorem os_mirE (a : Nat → Int32) (T A f i : Nat) (hf : ∀ e, e < 512 → e ^^^ f < 512 ∧ (e ^^^ f) ^^^ f = e ∧ e ^^^ f ≠ e) (hi : i < 512) (h : i ^^^ f ≤ i) : os_mir a T A f i = os_mir a T A f (i + 1) := by
  funext j
  refine os_mirC (fun h1 h2 => ?_)
  have hj : j - T < 512 := by omega
  generalize j - T = e at hj
  obtain ⟨f1, f2, f3⟩ := hf e hj
  obtain ⟨g1, g2, g3⟩ := hf i hi
  constructor
  · intro c; omega
  · intro c
    by_cases e1 : e = i
    · subst e1; omega
    · by_cases e2 : e ^^^ f = i
      · rw [e2] at f2; omega
      · omega
theorem os_mirS (a : Nat → Int32) (T A f i : Nat) (hf : ∀ e, e < 512 → e ^^^ f < 512 ∧ (e ^^^ f) ^^^ f = e ∧ e ^^^ f ≠ e) (hi : i < 512) (h : i < i ^^^ f) : upd (upd (os_mir a T A f i) (T + i) (a (A + (i ^^^ f)))) (T + (i ^^^ f)) (a (A + i)) = os_mir a T A f (i + 1) := by
  obtain ⟨g1, g2, g3⟩ := hf i hi
  funext j
  by_cases c1 : j = T + (i ^^^ f)
  · have e1 : j - T = i ^^^ f := by omega
    rw [c1, pk_us, ← c1, os_mirI ⟨by omega, by omega, by rw [e1, g2]; omega⟩, e1, g2]
  · rw [pk_un c1]
    by_cases c2 : j = T + i
    · have e1 : j - T = i := by omega
      rw [c2, pk_us, ← c2, os_mirI ⟨by omega, by omega, by omega⟩, e1]
    · rw [pk_un c2]
      refine os_mirC (fun h1 h2 => ?_)
      have hj : j - T < 512 := by omega
      have n1 : ¬ j - T = i ^^^ f := by omega
      have n2 : ¬ j - T = i := by omega
      generalize j - T = e at hj n1 n2
      obtain ⟨f1, f2, f3⟩ := hf e hj
      have n3 : ¬ e ^^^ f = i := fun g => n1 (by rw [← g, f2])
      omega
theorem os_xmir (a : Nat → Int32) {r s f : Nat} (hr : r < 4) (hs : s < 4) (hB : os_B a) (hf : ∀ e, e < 512 → e ^^^ f < 512 ∧ (e ^^^ f) ^^^ f = e ∧ e ^^^ f ≠ e) (post : Int32 → SX → Prop) (hp : post 1 (os_mir a (512 * r) (512 * s) f 512)) : ∀ d i : Nat, i + d = 512 → wX_mirror_50 post (nI (512 * r)) (nI (512 * s)) (nI f) (d + 1) (nI i) (os_mir a (512 * r) (512 * s) f i) := by
  intro d
  induction d with
  | zero =>
    intro i hi
    have e : i = 512 := hi
    rw [e]
    exact br_t (os_ge rfl) hp
  | succ d ih =>
    intro i hi
    have h5 : i < 512 := by omega
    obtain ⟨g1, g2, g3⟩ := hf i h5
    by_cases h : i ^^^ f ≤ i
    · refine br_f (os_lt h5) (nm_r (nx_xor i f) (br_t (nI_le h (by omega)) (nm_r (nI_1 i) ?_)))
      rw [os_mirE a _ _ f i hf h5 h]
      exact ih (i + 1) (by omega)
    · have r1 : os_mir a (512 * r) (512 * s) f i (512 * s + i) = a (512 * s + i) := by
        refine os_mirO (fun c => ?_)
        have e1 : 512 * s + i - 512 * r = i := by omega
        rw [e1] at c
        omega
      have r2 : os_mir a (512 * r) (512 * s) f i (512 * s + (i ^^^ f)) = a (512 * s + (i ^^^ f)) := by
        refine os_mirO (fun c => ?_)
        have e1 : 512 * s + (i ^^^ f) - 512 * r = i ^^^ f := by omega
        rw [e1, g2] at c
        omega
      refine br_f (os_lt h5) (nm_r (nx_xor i f) (br_f (nI_ge (by omega) (by omega)) ⟨os_xv hs h5, nm_r (by rw [os_xi hs h5, r1]) ⟨os_xv hs g1, nm_r (by rw [os_xi hs g1, r2]) ⟨os_xv hr h5, nm_r (by rw [os_xi hr h5, os_n1 (hB _)]) ⟨os_xv hr g1, nm_r (by rw [os_xi hr g1, os_n1 (hB _), os_mirS a _ _ f i hf h5 (by omega)]) (nm_r (nI_1 i) (ih (i + 1) (by omega)))⟩⟩⟩⟩))
theorem os_ymir (a m : Nat → Int32) {r s ax : Nat} (hr : r < 4) (hs : s < 4) (hB : os_B a) (hx : ax < 3) (post : Int32 → SY → Prop) (hp : post 1 (os_put a (512 * r) (fun e => a (512 * s + (e ^^^ os_fl ax))) 512, os_put m 0 (fun e => a (512 * s + (e ^^^ os_fl ax))) 512)) : ∀ d i : Nat, i + d = 512 → wY_mirror_30 post (nI r) (nI s) (nI ax) (d + 1) (nI i) a (os_put m 0 (fun e => a (512 * s + (e ^^^ os_fl ax))) i) := by
  intro d
  induction d with
  | zero =>
    intro i hi
    have e : i = 512 := hi
    rw [e]
    exact br_t (os_ge rfl) (os_keepw a m _ r hr (fun _ _ => hB _) _ hp)
  | succ d ih =>
    intro i hi
    have h5 : i < 512 := by omega
    obtain ⟨g1, g2, g3⟩ := os_flT ax hx i h5
    have e := os_putS m 0 (fun e => a (512 * s + (e ^^^ os_fl ax))) i
    rw [Nat.zero_add] at e
    refine br_f (os_lt h5) ?_
    rw [os_flI ax hx, nx_xor]
    refine ⟨os_yv hs g1, vp_in_nI h5 (by decide), nm_r ?_ (nm_r (nI_1 i) (ih (i + 1) (by omega)))⟩
    rw [os_yi hs g1, nI_clamp (by omega), os_n1 (hB _)]
    exact e
theorem i_vc_mirror {k : Nat} {u : SX} {v : SY} (I : i_Rel k u v) (hk : k + 5 ≤ 2560) (v1 : Int32) (v2 : Int32) (v3 : Int32) : wpX_mirror (fun r u' => wpY_mirror (fun r' v' => r' = r ∧ i_Rel (k + 5) u' v') v v1 v2 v3) u v1 v2 v3 := by
  have J : i_Rel (k + 5) u v := I
  obtain ⟨m, rfl, hB⟩ := os_I I
  rcases os_sol v1 with ⟨r, hr, rfl⟩ | ⟨hx, hy⟩
  · rcases os_sol v2 with ⟨s, hs, rfl⟩ | ⟨hx, hy⟩
    · by_cases h0 : v3 < 0
      · unfold wpX_mirror wpY_mirror
        dsimp only
        exact os_xs hr (br_f os_10 (os_xs hs (br_f os_10 (br_t h0 (os_ys hr (br_f os_10 (os_ys hs (br_f os_10 (br_t h0 ⟨rfl, J⟩)))))))))
      · obtain ⟨ax, hax, rfl⟩ := nI_of h0
        by_cases h3 : ax < 3
        · have hX := os_xmir u hr hs hB (os_flT ax h3) (fun r_1 u' => wpY_mirror (fun r' v' => r' = r_1 ∧ i_Rel (k + 5) u' v') (u, m) (nI r) (nI s) (nI ax))
          have hY := os_ymir u m hr hs hB h3 (fun r' v' => r' = 1 ∧ i_Rel (k + 5) (os_mir u (512 * r) (512 * s) (os_fl ax) 512) v') ⟨rfl, And.intro (os_mirP _ _ _ _) (by rw [os_mirP]; exact os_putB hB _ _ (fun _ _ => hB _))⟩ 512 0 rfl
          rw [os_put0] at hY
          have g0 := hX (by unfold wpY_mirror; dsimp only; exact os_ys hr (br_f os_10 (os_ys hs (br_f os_10 (br_f h0 (br_t (nI_le (b := 2) (by omega) (by decide)) ⟨_, hY⟩)))))) 512 0 rfl
          rw [os_mir0] at g0
          unfold wpX_mirror
          exact os_xs hr (br_f os_10 (os_xs hs (br_f os_10 (br_f h0 (br_t (nI_lt (b := 3) h3 (by decide)) (nm_r (os_bx r) (nm_r (os_bx s) (nm_r (os_flI ax h3) ⟨_, g0⟩))))))))
        · unfold wpX_mirror wpY_mirror
          dsimp only
          exact os_xs hr (br_f os_10 (os_xs hs (br_f os_10 (br_f h0 (br_f (nI_nlt (b := 3) (by omega) hax) (os_ys hr (br_f os_10 (os_ys hs (br_f os_10 (br_f h0 (br_f (nI_ge (a := 2) (by omega) hax) ⟨rfl, J⟩)))))))))))
    · unfold wpX_mirror wpY_mirror
      dsimp only
      exact os_xs hr (br_f os_10 (hx _ (br_t rfl (os_ys hr (br_f os_10 (hy _ _ _ (br_t rfl ⟨rfl, J⟩)))))))
  · unfold wpX_mirror wpY_mirror
    dsimp only
    exact hx _ (br_t rfl (hy _ _ _ (br_t rfl ⟨rfl, J⟩)))
