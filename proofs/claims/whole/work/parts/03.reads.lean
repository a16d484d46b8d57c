/-! has, volume, inside, same, next -/
theorem i_vc_has {k : Nat} {u : SX} {v : SY} (I : i_Rel k u v) (hk : k + 5 ≤ 2560) (v1 : Int32) (v2 : Int32) : wpX_has (fun r => wpY_has (fun r' => r' = r ∧ i_Rel (k + 5) u v) v v1 v2) u v1 v2 := by
  have J : i_Rel (k + 5) u v := I
  obtain ⟨m, rfl, hB⟩ := os_I I
  unfold wpX_has wpY_has
  dsimp only
  rcases os_sol v1 with ⟨r, hr, rfl⟩ | ⟨hx, hy⟩
  · refine os_xs hr (br_f os_10 ?_)
    rcases os_cel v2 with ⟨c, hc, rfl⟩ | ⟨hx, hy⟩
    · refine os_xc hc (br_f os_10 ?_)
      rw [os_bx]
      refine ⟨os_xv hr hc, ?_⟩
      rw [os_xi hr hc]
      refine br_c (fun z => ?_) (fun z => ?_)
      · refine os_ys hr (br_f os_10 (os_yc hc (br_f os_10 ⟨os_yv hr hc, br_t ?_ ⟨rfl, J⟩⟩)))
        rw [os_yi hr hc]; exact z
      · refine os_ys hr (br_f os_10 (os_yc hc (br_f os_10 ⟨os_yv hr hc, br_f ?_ ⟨rfl, J⟩⟩)))
        rw [os_yi hr hc]; exact z
    · exact hx _ (br_t rfl (os_ys hr (br_f os_10 (hy _ _ _ (br_t rfl ⟨rfl, J⟩)))))
  · exact hx _ (br_t rfl (hy _ _ _ (br_t rfl ⟨rfl, J⟩)))
theorem os_vol (a m : Nat → Int32) (r : Nat) (hr : r < 4) : ∀ d i : Nat, i + d = 512 → ∀ c : Int32, ∃ q : Int32, (∀ post : Int32 → Prop, post q → wX_volume_20 post (nI (512 * r)) a (d + 1) c (nI i)) ∧ (∀ post : Int32 → Prop, post q → wY_volume_4 post (nI r) a m (d + 1) c (nI i)) := by
  intro d
  induction d with
  | zero =>
    intro i hi c
    exact ⟨c, fun _ hp => br_t (os_ge hi) hp, fun _ hp => br_t (os_ge hi) (os_ys hr (br_f os_10 hp))⟩
  | succ d ih =>
    intro i hi c
    have h5 : i < 512 := by omega
    by_cases z : a (512 * r + i) = 0
    · obtain ⟨q, hX, hY⟩ := ih (i + 1) (by omega) c
      refine ⟨q, fun post hp => br_f (os_lt h5) ⟨os_xv hr h5, br_t (by rw [os_xi hr h5]; exact z) (nm_r (nI_1 i) (hX post hp))⟩, fun post hp => br_f (os_lt h5) (os_ys hr (br_f os_10 ⟨os_yv hr h5, br_t (by rw [os_yi hr h5]; exact z) (nm_r (nI_1 i) (hY post hp))⟩))⟩
    · obtain ⟨q, hX, hY⟩ := ih (i + 1) (by omega) (c + 1)
      refine ⟨q, fun post hp => br_f (os_lt h5) ⟨os_xv hr h5, br_f (by rw [os_xi hr h5]; exact z) (nm_e (nm_r (nI_1 i) (hX post hp)))⟩, fun post hp => br_f (os_lt h5) (os_ys hr (br_f os_10 ⟨os_yv hr h5, br_f (by rw [os_yi hr h5]; exact z) (nm_e (nm_r (nI_1 i) (hY post hp)))⟩))⟩
theorem i_vc_volume {k : Nat} {u : SX} {v : SY} (I : i_Rel k u v) (hk : k + 5 ≤ 2560) (v1 : Int32) : wpX_volume (fun r => wpY_volume (fun r' => r' = r ∧ i_Rel (k + 5) u v) v v1) u v1 := by
  have J : i_Rel (k + 5) u v := I
  obtain ⟨m, rfl, hB⟩ := os_I I
  unfold wpX_volume wpY_volume
  dsimp only
  rcases os_sol v1 with ⟨r, hr, rfl⟩ | ⟨hx, hy⟩
  · obtain ⟨q, hX, hY⟩ := os_vol u m r hr 512 0 rfl 0
    exact os_xs hr (br_f os_10 (nm_r (os_bx r) ⟨_, hX _ ⟨_, hY _ ⟨rfl, J⟩⟩⟩))
  · refine hx _ (br_t rfl ⟨1, br_f (by decide) (hy _ _ _ (br_t rfl (hy _ _ _ (br_t rfl ⟨rfl, J⟩))))⟩)
theorem os_xsame (a : Nat → Int32) {r s : Nat} (hr : r < 4) (hs : s < 4) (post : Int32 → Prop) : ∀ d i : Nat, i + d = 512 → (os_Al (fun j => a (512 * r + j) = a (512 * s + j)) i 512 → post 1) → (¬ os_Al (fun j => a (512 * r + j) = a (512 * s + j)) i 512 → post 0) → wX_same_32 post (nI (512 * r)) (nI (512 * s)) a (d + 1) (nI i) := by
  intro d
  induction d with
  | zero =>
    intro i hi h1 h0
    exact br_t (os_ge hi) (h1 (os_al_0 (by omega)))
  | succ d ih =>
    intro i hi h1 h0
    have h5 : i < 512 := by omega
    by_cases z : a (512 * r + i) = a (512 * s + i)
    · exact br_f (os_lt h5) ⟨os_xv hr h5, os_xv hs h5, br_t (by rw [os_xi hr h5, os_xi hs h5]; exact z) (nm_r (nI_1 i) (ih (i + 1) (by omega) (fun g => h1 (os_al_s z g)) (fun g => h0 (os_al_n g))))⟩
    · exact br_f (os_lt h5) ⟨os_xv hr h5, os_xv hs h5, br_f (by rw [os_xi hr h5, os_xi hs h5]; exact z) (h0 (os_al_f h5 z))⟩
theorem os_xins (a : Nat → Int32) {r s : Nat} (hr : r < 4) (hs : s < 4) (post : Int32 → Prop) : ∀ d i : Nat, i + d = 512 → (os_Al (fun j => a (512 * r + j) = 0 ∨ ¬ a (512 * s + j) = 0) i 512 → post 1) → (¬ os_Al (fun j => a (512 * r + j) = 0 ∨ ¬ a (512 * s + j) = 0) i 512 → post 0) → wX_inside_32 post (nI (512 * r)) (nI (512 * s)) a (d + 1) (nI i) := by
  intro d
  induction d with
  | zero =>
    intro i hi h1 h0
    exact br_t (os_ge hi) (h1 (os_al_0 (by omega)))
  | succ d ih =>
    intro i hi h1 h0
    have h5 : i < 512 := by omega
    by_cases z : a (512 * r + i) = 0
    · exact br_f (os_lt h5) ⟨os_xv hr h5, br_t (by rw [os_xi hr h5]; exact z) (nm_r (nI_1 i) (ih (i + 1) (by omega) (fun g => h1 (os_al_s (Or.inl z) g)) (fun g => h0 (os_al_n g))))⟩
    · by_cases w : a (512 * s + i) = 0
      · exact br_f (os_lt h5) ⟨os_xv hr h5, br_f (by rw [os_xi hr h5]; exact z) ⟨os_xv hs h5, br_t (by rw [os_xi hs h5]; exact w) (h0 (os_al_f h5 (fun g => g.elim z (fun g => g w))))⟩⟩
      · exact br_f (os_lt h5) ⟨os_xv hr h5, br_f (by rw [os_xi hr h5]; exact z) ⟨os_xv hs h5, br_f (by rw [os_xi hs h5]; exact w) (nm_r (nI_1 i) (ih (i + 1) (by omega) (fun g => h1 (os_al_s (Or.inr w) g)) (fun g => h0 (os_al_n g))))⟩⟩
theorem os_yin0 {post : Int32 → Prop} {x1 x2 x : Int32} {a m : Nat → Int32} (n : Nat) (h : post 0) : wY_inside_25 post x1 x2 a m (n + 1) 0 x :=
  br_c (fun _ => ⟨rfl, h⟩) (fun _ => br_t rfl ⟨rfl, h⟩)
theorem os_yins (a m : Nat → Int32) {r s : Nat} (hr : r < 4) (hs : s < 4) (post : Int32 → Prop) : ∀ d i : Nat, i + d = 512 → (os_Al (fun j => a (512 * r + j) = 0 ∨ ¬ a (512 * s + j) = 0) i 512 → post 1) → (¬ os_Al (fun j => a (512 * r + j) = 0 ∨ ¬ a (512 * s + j) = 0) i 512 → post 0) → wY_inside_25 post (nI r) (nI s) a m (d + 1) 1 (nI i) := by
  intro d
  induction d with
  | zero =>
    intro i hi h1 h0
    exact br_t (os_ge hi) ⟨rfl, h1 (os_al_0 (by omega))⟩
  | succ d ih =>
    intro i hi h1 h0
    have h5 : i < 512 := by omega
    by_cases z : a (512 * r + i) = 0
    · exact br_f (os_lt h5) (br_f os_10 ⟨os_yv hr h5, br_t (by rw [os_yi hr h5]; exact z) (nm_r (nI_1 i) (ih (i + 1) (by omega) (fun g => h1 (os_al_s (Or.inl z) g)) (fun g => h0 (os_al_n g))))⟩)
    · by_cases w : a (512 * s + i) = 0
      · exact br_f (os_lt h5) (br_f os_10 ⟨os_yv hr h5, br_f (by rw [os_yi hr h5]; exact z) ⟨os_yv hs h5, br_t (by rw [os_yi hs h5]; exact w) (nm_e (os_yin0 d (h0 (os_al_f h5 (fun g => g.elim z (fun g => g w))))))⟩⟩)
      · exact br_f (os_lt h5) (br_f os_10 ⟨os_yv hr h5, br_f (by rw [os_yi hr h5]; exact z) ⟨os_yv hs h5, br_f (by rw [os_yi hs h5]; exact w) (nm_r (nI_1 i) (ih (i + 1) (by omega) (fun g => h1 (os_al_s (Or.inr w) g)) (fun g => h0 (os_al_n g))))⟩⟩)
theorem os_yinw (a m : Nat → Int32) {r s : Nat} (hr : r < 4) (hs : s < 4) (post : Int32 → Prop) (h1 : os_Al (fun j => a (512 * r + j) = 0 ∨ ¬ a (512 * s + j) = 0) 0 512 → post 1) (h0 : ¬ os_Al (fun j => a (512 * r + j) = 0 ∨ ¬ a (512 * s + j) = 0) 0 512 → post 0) : wpY_inside post (a, m) (nI r) (nI s) := by
  unfold wpY_inside
  dsimp only
  exact os_ys hr (br_f os_10 (os_ys hs (br_f os_10 ⟨_, os_yins a m hr hs post 512 0 rfl h1 h0⟩)))
theorem i_vc_inside {k : Nat} {u : SX} {v : SY} (I : i_Rel k u v) (hk : k + 5 ≤ 2560) (v1 : Int32) (v2 : Int32) : wpX_inside (fun r => wpY_inside (fun r' => r' = r ∧ i_Rel (k + 5) u v) v v1 v2) u v1 v2 := by
  have J : i_Rel (k + 5) u v := I
  obtain ⟨m, rfl, hB⟩ := os_I I
  rcases os_sol v1 with ⟨r, hr, rfl⟩ | ⟨hx, hy⟩
  · rcases os_sol v2 with ⟨s, hs, rfl⟩ | ⟨hx, hy⟩
    · unfold wpX_inside
      refine os_xs hr (br_f os_10 (os_xs hs (br_f os_10 (nm_r (os_bx r) (nm_r (os_bx s) ⟨_, os_xins u hr hs _ 512 0 rfl (fun g => ?_) (fun g => ?_)⟩)))))
      · exact os_yinw u m hr hs _ (fun _ => ⟨rfl, J⟩) (fun n => absurd g n)
      · exact os_yinw u m hr hs _ (fun n => absurd n g) (fun _ => ⟨rfl, J⟩)
    · unfold wpX_inside wpY_inside
      dsimp only
      exact os_xs hr (br_f os_10 (hx _ (br_t rfl (os_ys hr (br_f os_10 (hy _ _ _ (br_t rfl ⟨1, os_yin0 0 ⟨rfl, J⟩⟩)))))))
  · unfold wpX_inside wpY_inside
    dsimp only
    exact hx _ (br_t rfl (hy _ _ _ (br_t rfl ⟨1, os_yin0 0 ⟨rfl, J⟩⟩)))
theorem os_yinb (a m : Nat → Int32) (p q : Int32) (post : Int32 → Prop) (h : (∀ (post : Int32 → Prop) (a m : Nat → Int32), post 0 → wpY_solid post (a, m) p) ∨ (∃ r, r < 4 ∧ p = nI r) ∧ (∀ (post : Int32 → Prop) (a m : Nat → Int32), post 0 → wpY_solid post (a, m) q)) (h0 : post 0) : wpY_inside post (a, m) p q := by
  unfold wpY_inside
  dsimp only
  rcases h with h | ⟨⟨r, hr, rfl⟩, h⟩
  · exact h _ _ _ (br_t rfl ⟨1, os_yin0 0 h0⟩)
  · exact os_ys hr (br_f os_10 (h _ _ _ (br_t rfl ⟨1, os_yin0 0 h0⟩)))
theorem i_vc_same {k : Nat} {u : SX} {v : SY} (I : i_Rel k u v) (hk : k + 5 ≤ 2560) (v1 : Int32) (v2 : Int32) : wpX_same (fun r => wpY_same (fun r' => r' = r ∧ i_Rel (k + 5) u v) v v1 v2) u v1 v2 := by
  have J : i_Rel (k + 5) u v := I
  obtain ⟨m, rfl, hB⟩ := os_I I
  unfold wpX_same wpY_same
  dsimp only
  rcases os_sol v1 with ⟨r, hr, rfl⟩ | ⟨hx, hy⟩
  · rcases os_sol v2 with ⟨s, hs, rfl⟩ | ⟨hx, hy⟩
    · refine os_xs hr (br_f os_10 (os_xs hs (br_f os_10 (nm_r (os_bx r) (nm_r (os_bx s) ⟨_, os_xsame u hr hs _ 512 0 rfl (fun g => ?_) (fun g => ?_)⟩)))))
      · refine os_yinw u m hr hs _ (fun _ => br_f os_10 (os_yinw u m hs hr _ (fun _ => br_f os_10 ⟨rfl, J⟩) (fun n => ?_))) (fun n => ?_)
        · refine absurd (fun j h1 h2 => ?_) n
          have e := g j h1 h2
          dsimp only at e ⊢
          rw [e]
          exact Classical.em _
        · refine absurd (fun j h1 h2 => ?_) n
          have e := g j h1 h2
          dsimp only at e ⊢
          rw [e]
          exact Classical.em _
      · refine os_yinw u m hr hs _ (fun p1 => br_f os_10 (os_yinw u m hs hr _ (fun p2 => ?_) (fun _ => br_t rfl ⟨rfl, J⟩))) (fun _ => br_t rfl ⟨rfl, J⟩)
        refine absurd (fun j h1 h2 => ?_) g
        have e1 := p1 j h1 h2
        have e2 := p2 j h1 h2
        dsimp only at e1 e2 ⊢
        rcases hB (512 * r + j) with x | x <;> rcases hB (512 * s + j) with y | y <;> rw [x, y] at e1 e2 ⊢
        · exact absurd e2 (by decide)
        · exact absurd e1 (by decide)
    · exact os_xs hr (br_f os_10 (hx _ (br_t rfl (os_yinb u m _ _ _ (Or.inr ⟨⟨r, hr, rfl⟩, hy⟩) (br_t rfl ⟨rfl, J⟩)))))
  · exact hx _ (br_t rfl (os_yinb u m _ _ _ (Or.inl hy) (br_t rfl ⟨rfl, J⟩)))
theorem os_nxt (a m : Nat → Int32) (r : Nat) (hr : r < 4) (c : Int32) : ∀ d i : Nat, i + d = 512 → (∀ e, i ≤ e → e < 512 → ¬ nI e < c) → ∃ q : Int32, (∀ post : Int32 → Prop, post q → wX_next_30 post (nI (512 * r)) a (d + 1) (nI i)) ∧ (∀ post : Int32 → Prop, post q → wY_next_2 post (nI r) c a m (d + 1) (nI i)) := by
  intro d
  induction d with
  | zero =>
    intro i hi hc
    exact ⟨-1, fun _ hp => br_t (os_ge hi) hp, fun _ hp => br_t (os_ge hi) hp⟩
  | succ d ih =>
    intro i hi hc
    have h5 : i < 512 := by omega
    by_cases z : a (512 * r + i) = 0
    · obtain ⟨q, hX, hY⟩ := ih (i + 1) (by omega) (fun e h1 h2 => hc e (by omega) h2)
      exact ⟨q, fun post hp => br_f (os_lt h5) ⟨os_xv hr h5, br_t (by rw [os_xi hr h5]; exact z) (nm_r (nI_1 i) (hX post hp))⟩, fun post hp => br_f (os_lt h5) (os_ys hr (br_f os_10 (br_f (hc i (Nat.le_refl i) h5) ⟨os_yv hr h5, br_t (by rw [os_yi hr h5]; exact z) (nm_r (nI_1 i) (hY post hp))⟩)))⟩
    · exact ⟨nI i, fun post hp => br_f (os_lt h5) ⟨os_xv hr h5, br_f (by rw [os_xi hr h5]; exact z) hp⟩, fun post hp => br_f (os_lt h5) (os_ys hr (br_f os_10 (br_f (hc i (Nat.le_refl i) h5) ⟨os_yv hr h5, br_f (by rw [os_yi hr h5]; exact z) hp⟩)))⟩
theorem os_nsk (a m : Nat → Int32) (r : Nat) (hr : r < 4) (c : Int32) (post : Int32 → Prop) (n : Nat) : ∀ d i : Nat, i + d ≤ 512 → (∀ e, i ≤ e → e < i + d → nI e < c) → wY_next_2 post (nI r) c a m n (nI (i + d)) → wY_next_2 post (nI r) c a m (n + d) (nI i) := by
  intro d
  induction d with
  | zero => intro i hi hc h; exact h
  | succ d ih =>
    intro i hi hc h
    have h5 : i < 512 := by omega
    refine br_f (os_lt h5) (os_ys hr (br_f os_10 (br_t (hc i (Nat.le_refl i) (by omega)) (nm_r (nI_1 i) (ih (i + 1) (by omega) (fun e h1 h2 => hc e (by omega) (by omega)) ?_)))))
    rw [show i + 1 + d = i + (d + 1) by omega]
    exact h
theorem i_vc_next {k : Nat} {u : SX} {v : SY} (I : i_Rel k u v) (hk : k + 5 ≤ 2560) (v1 : Int32) (v2 : Int32) : wpX_next (fun r => wpY_next (fun r' => r' = r ∧ i_Rel (k + 5) u v) v v1 v2) u v1 v2 := by
  have J : i_Rel (k + 5) u v := I
  obtain ⟨m, rfl, hB⟩ := os_I I
  unfold wpX_next wpY_next
  dsimp only
  rcases os_sol v1 with ⟨r, hr, rfl⟩ | ⟨hx, hy⟩
  · refine os_xs hr (br_f os_10 (nm_r (os_bx r) ?_))
    by_cases h : v2 < 0
    · have hn : ¬ 0 ≤ v2 := by
        rw [Int32.le_iff_toInt_le]
        rw [Int32.lt_iff_toInt_lt] at h
        omega
      have hc : ∀ e, 0 ≤ e → e < 512 → ¬ nI e < v2 := by
        intro e _ he hh
        have h1 := nI_pos' (n := e) (by omega)
        rw [Int32.le_iff_toInt_le] at h1
        rw [Int32.lt_iff_toInt_lt] at h hh
        omega
      obtain ⟨q, hX, hY⟩ := os_nxt u m r hr v2 512 0 rfl hc
      exact br_f hn ⟨_, hX _ ⟨_, hY _ ⟨rfl, J⟩⟩⟩
    · obtain ⟨j, hj, rfl⟩ := nI_of h
      refine br_t (nI_pos' hj) ?_
      by_cases h5 : j < 512
      · obtain ⟨q, hX, hY⟩ := os_nxt u m r hr (nI j) (512 - j) j (by omega) (fun e h1 h2 => nI_nlt h1 (by omega))
        refine ⟨_, hX _ ⟨512 - j + 1 + j, ?_⟩⟩
        refine os_nsk u m r hr (nI j) _ (512 - j + 1) j 0 (by omega) (fun e h1 h2 => nI_lt (by omega) hj) ?_
        rw [Nat.zero_add]
        exact hY _ ⟨rfl, J⟩
      · refine ⟨1, br_t (nI_le (a := 512) (by omega) hj) ⟨1 + 512, ?_⟩⟩
        exact os_nsk u m r hr (nI j) _ 1 512 0 (by omega) (fun e h1 h2 => nI_lt (by omega) hj) (br_t (os_ge rfl) ⟨rfl, J⟩)
  · exact hx _ (br_t rfl ⟨1, br_f (by decide) (hy _ _ _ (br_t rfl ⟨rfl, J⟩))⟩)
