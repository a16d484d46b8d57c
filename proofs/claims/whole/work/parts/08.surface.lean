/-! surface -/
theorem os_pt {c ax : Nat} (hc : c < 512) (hx : ax < 3) : (nI c >>> ((3 * nI ax) &&& 31)) &&& 7 = nI (c / 8 ^ ax % 8) := by
  have h : ax = 0 ∨ ax = 1 ∨ ax = 2 := by omega
  rcases h with rfl | rfl | rfl
  · rw [Nat.pow_zero, Nat.div_one]; exact os_p0 hc
  · exact os_p1 hc
  · exact os_p2 hc
theorem os_st : ∀ ax, ax < 3 → (1 : Int32) <<< ((3 * nI ax) &&& 31) = nI (8 ^ ax) := by decide +kernel
theorem os_sn : ∀ ax, ax < 3 → (-1 : Int32) <<< ((3 * nI ax) &&& 31) = -nI (8 ^ ax) := by decide +kernel
theorem os_up {c ax : Nat} (hc : c < 512) (hx : ax < 3) (h : ¬ c / 8 ^ ax % 8 = 7) : c + 8 ^ ax < 512 := by
  have h : ax = 0 ∨ ax = 1 ∨ ax = 2 := by omega
  rcases h with rfl | rfl | rfl <;> simp only [Nat.reducePow, Nat.div_one] at * <;> omega
theorem os_dn {c ax : Nat} (hc : c < 512) (hx : ax < 3) (h : ¬ c / 8 ^ ax % 8 = 0) : 8 ^ ax ≤ c := by
  have h : ax = 0 ∨ ax = 1 ∨ ax = 2 := by omega
  rcases h with rfl | rfl | rfl <;> simp only [Nat.reducePow, Nat.div_one] at * <;> omega
def os_lv (a : Nat → Int32) (B c ax : Nat) : Int32 := if c / 8 ^ ax % 8 = 0 ∨ a (B + c - 8 ^ ax) = 0 then 1 else 0
def os_hv (a : Nat → Int32) (B c ax : Nat) : Int32 := if c / 8 ^ ax % 8 = 7 ∨ a (B + c + 8 ^ ax) = 0 then 1 else 0
theorem os_lv1 {a : Nat → Int32} {B c ax : Nat} (h : c / 8 ^ ax % 8 = 0 ∨ a (B + c - 8 ^ ax) = 0) : os_lv a B c ax = 1 := if_pos h
theorem os_lv0 {a : Nat → Int32} {B c ax : Nat} (h : ¬ (c / 8 ^ ax % 8 = 0 ∨ a (B + c - 8 ^ ax) = 0)) : os_lv a B c ax = 0 := if_neg h
theorem os_hv1 {a : Nat → Int32} {B c ax : Nat} (h : c / 8 ^ ax % 8 = 7 ∨ a (B + c + 8 ^ ax) = 0) : os_hv a B c ax = 1 := if_pos h
theorem os_hv0 {a : Nat → Int32} {B c ax : Nat} (h : ¬ (c / 8 ^ ax % 8 = 7 ∨ a (B + c + 8 ^ ax) = 0)) : os_hv a B c ax = 0 := if_neg h
theorem os_x39 {a : Nat → Int32} {r c ax : Nat} (hr : r < 4) (hc : c < 512) (hx : ax < 3) {post : Int32 → Prop} (x6 : Int32) (hp : post (x6 + os_hv a (512 * r) c ax)) : wX_openSides_39 post (nI (512 * r)) (nI c) (nI (8 ^ ax)) (nI (c / 8 ^ ax % 8)) x6 a := by
  by_cases h7 : c / 8 ^ ax % 8 = 7
  · rw [os_hv1 (Or.inl h7)] at hp
    refine br_t ?_ (nm_e hp)
    rw [h7]
    rfl
  · have hu := os_up hc hx h7
    refine br_f (fun e => h7 ((nI_eq (b := 7) (by omega) (by decide)).mp e)) ?_
    rw [nI_add, nI_add, nI_clamp (by omega)]
    refine ⟨vp_in_nI (by omega) (by decide), br_c (fun z => ?_) (fun z => ?_)⟩
    · rw [os_hv1 (Or.inr z)] at hp
      exact nm_e hp
    · rw [os_hv0 (fun g => g.elim h7 z), Int32.add_zero] at hp
      exact hp
theorem os_x36 {a : Nat → Int32} {r c ax : Nat} (hr : r < 4) (hc : c < 512) (hx : ax < 3) {post : Int32 → Prop} (hp : post (1 + os_hv a (512 * r) c ax)) : wX_openSides_36 post (nI (512 * r)) (nI c) (nI (8 ^ ax)) (nI (c / 8 ^ ax % 8)) 0 a :=
  nm_r (show (0 : Int32) + 1 = 1 from by decide) (os_x39 hr hc hx 1 hp)
theorem os_xop {a : Nat → Int32} {r c ax : Nat} (hr : r < 4) (hc : c < 512) (hx : ax < 3) {post : Int32 → Prop} (hp : post (os_lv a (512 * r) c ax + os_hv a (512 * r) c ax)) : wpX_openSides post a (nI (512 * r)) (nI c) (nI ax) := by
  unfold wpX_openSides wpX_coordinate
  dsimp only
  rw [os_pt hc hx]
  refine nm_r (os_st ax hx) ?_
  by_cases h0 : c / 8 ^ ax % 8 = 0
  · rw [os_lv1 (Or.inl h0)] at hp
    refine br_t ?_ (os_x36 hr hc hx hp)
    rw [h0]
    rfl
  · have hd := os_dn hc hx h0
    refine br_f (nI_ne0 (by omega) (by omega)) ?_
    have hp8 : 0 < 8 ^ ax := Nat.pow_pos (by decide)
    rw [nI_add, pk_sub (by omega), nI_clamp (by omega)]
    refine ⟨vp_in_nI (by omega) (by decide), br_c (fun z => ?_) (fun z => ?_)⟩
    · rw [os_lv1 (Or.inr z)] at hp
      exact os_x36 hr hc hx hp
    · rw [os_lv0 (fun g => g.elim h0 z)] at hp
      exact os_x39 hr hc hx 0 hp
theorem os_ynz {a m : Nat → Int32} {post : Int32 → Prop} {p0 p1 p2 : Int32} (hp : ∀ q, post q) : wpY_neighbour post (a, m) p0 p1 p2 := by
  unfold wpY_neighbour wpY_part
  dsimp only
  exact nm_e (br_c (fun _ => hp _) (fun _ => br_c (fun _ => hp _) (fun _ => hp _)))
theorem os_y47z {a m : Nat → Int32} {r c t : Nat} (hr : r < 4) (hc : c < 512) {post : Int32 → Prop} {J4 J : Int32 → Int32 → Prop} {x2 z0 z1 z2 : Int32} (z : a (512 * r + c) = 0) (h : J x2 (nI (t + 1))) : wY_surface_47 post J4 J (nI r) x2 (nI c) (nI t) z0 z1 z2 a m :=
  os_ynz (fun q => ⟨os_yv hr hc, br_t (by rw [os_yi hr hc]; exact z) (nm_r (nI_1 t) h)⟩)
theorem os_y47p {a m : Nat → Int32} {r c t ax : Nat} (hr : r < 4) (hc : c < 512) (hx : ax < 3) {post : Int32 → Prop} {J4 J : Int32 → Int32 → Prop} {x2 : Int32} (z : ¬ a (512 * r + c) = 0) (h : J (x2 + os_hv a (512 * r) c ax) (nI (t + 1))) : wY_surface_47 post J4 J (nI r) x2 (nI c) (nI t) 1 (nI ax) (nI c) a m := by
  unfold wY_surface_47 wpY_neighbour wpY_part
  dsimp only
  rw [os_pt hc hx, os_st ax hx, os_yi hr hc]
  by_cases h7 : c / 8 ^ ax % 8 = 7
  · rw [os_hv1 (Or.inl h7)] at h
    exact nm_r (nI_1 _) (br_f (nI_pos (by omega)) (br_f (nI_ge (a := 7) (by omega) (by omega)) ⟨os_yv hr hc, br_f z (br_t (by decide) (nm_e (nm_r (nI_1 t) h)))⟩))
  · have hu := os_up hc hx h7
    refine nm_r (nI_1 _) (br_f (nI_pos (by omega)) (br_t (nI_le (b := 7) (by omega) (by omega)) ⟨os_yv hr hc, br_f z ?_⟩))
    rw [nI_add]
    refine br_f (nI_pos (by omega)) ⟨os_yv hr hu, ?_⟩
    rw [os_yi hr hu, ← Nat.add_assoc]
    refine br_c (fun w => ?_) (fun w => ?_)
    · rw [os_hv1 (Or.inr w)] at h
      exact nm_e (nm_r (nI_1 t) h)
    · rw [os_hv0 (fun g => g.elim h7 w), Int32.add_zero] at h
      exact nm_r (nI_1 t) h
theorem os_y47n {a m : Nat → Int32} {r c t ax : Nat} (hr : r < 4) (hc : c < 512) (hx : ax < 3) {post : Int32 → Prop} {J4 J : Int32 → Int32 → Prop} {x2 : Int32} (z : ¬ a (512 * r + c) = 0) (h : J (x2 + os_lv a (512 * r) c ax) (nI (t + 1))) : wY_surface_47 post J4 J (nI r) x2 (nI c) (nI t) (-1) (nI ax) (nI c) a m := by
  unfold wY_surface_47 wpY_neighbour wpY_part
  dsimp only
  rw [os_pt hc hx, os_sn ax hx, os_yi hr hc]
  by_cases h0 : c / 8 ^ ax % 8 = 0
  · rw [os_lv1 (Or.inl h0)] at h
    rw [h0]
    exact nm_e (br_t (by decide) ⟨os_yv hr hc, br_f z (br_t (by decide) (nm_e (nm_r (nI_1 t) h)))⟩)
  · have hd := os_dn hc hx h0
    obtain ⟨j, hj⟩ : ∃ j, c / 8 ^ ax % 8 = j + 1 := ⟨c / 8 ^ ax % 8 - 1, by omega⟩
    have hj7 : j < 7 := by omega
    rw [hj]
    refine nm_r (pk_m1 j) (br_f (nI_pos (by omega)) (br_t (nI_le (b := 7) (by omega) (by omega)) ⟨os_yv hr hc, br_f z ?_⟩))
    have hp8 : 0 < 8 ^ ax := Nat.pow_pos (by decide)
    have hl : c - 8 ^ ax < 512 := by omega
    rw [← Int32.sub_eq_add_neg, pk_sub hd]
    refine br_f (nI_pos (by omega)) ⟨os_yv hr hl, ?_⟩
    rw [os_yi hr hl, show 512 * r + (c - 8 ^ ax) = 512 * r + c - 8 ^ ax by omega]
    refine br_c (fun w => ?_) (fun w => ?_)
    · rw [os_lv1 (Or.inr w)] at h
      exact nm_e (nm_r (nI_1 t) h)
    · rw [os_lv0 (fun g => g.elim h0 w), Int32.add_zero] at h
      exact nm_r (nI_1 t) h
theorem os_y22s {a m : Nat → Int32} {post : Int32 → Prop} {J4 : Int32 → Int32 → Prop} {x1 x3 x2 : Int32} (n t : Nat) (ht : t < 6) (h0 : t % 2 = 0 → wY_surface_47 post J4 (wY_surface_22 post J4 x1 x3 a m n) x1 x2 x3 (nI t) 1 (nI (t / 2)) x3 a m) (h1 : ¬ t % 2 = 0 → wY_surface_47 post J4 (wY_surface_22 post J4 x1 x3 a m n) x1 x2 x3 (nI t) (-1) (nI (t / 2)) x3 a m) : wY_surface_22 post J4 x1 x3 a m (n + 1) x2 (nI t) := by
  have e1 : nI t - nI t / 2 * 2 = nI (t % 2) := pk_rem (d := 2) (by omega) (by decide) (by decide)
  have e2 : nI t / 2 = nI (t / 2) := pk_div (d := 2) (by omega) (by decide) (by decide)
  refine br_f (nI_ge (b := 6) ht (by decide)) ⟨by decide, by decide, ?_⟩
  rw [e1, e2]
  exact br_c (fun e => h0 ((nI_eq (b := 0) (by omega) (by decide)).mp e)) (fun e => h1 (fun g => e ((nI_eq (b := 0) (by omega) (by decide)).mpr g)))
theorem os_y22z {a m : Nat → Int32} {r c : Nat} (hr : r < 4) (hc : c < 512) {post : Int32 → Prop} {J4 : Int32 → Int32 → Prop} {x2 : Int32} (z : a (512 * r + c) = 0) (h : J4 x2 (nI (c + 1))) : ∀ d t : Nat, t + d = 6 → wY_surface_22 post J4 (nI r) (nI c) a m (d + 1) x2 (nI t) := by
  intro d
  induction d with
  | zero =>
    intro t ht
    exact br_t (nI_le (a := 6) (by omega) (by omega)) (nm_r (nI_1 c) h)
  | succ d ih =>
    intro t ht
    exact os_y22s _ t (by omega) (fun _ => os_y47z hr hc z (ih (t + 1) (by omega))) (fun _ => os_y47z hr hc z (ih (t + 1) (by omega)))
theorem os_y22 {a m : Nat → Int32} {r c : Nat} (hr : r < 4) (hc : c < 512) {post : Int32 → Prop} {J4 : Int32 → Int32 → Prop} {x2 : Int32} (z : ¬ a (512 * r + c) = 0) (h : J4 (((x2 + (os_lv a (512 * r) c 0 + os_hv a (512 * r) c 0)) + (os_lv a (512 * r) c 1 + os_hv a (512 * r) c 1)) + (os_lv a (512 * r) c 2 + os_hv a (512 * r) c 2)) (nI (c + 1))) : wY_surface_22 post J4 (nI r) (nI c) a m 7 x2 (nI 0) := by
  have e : ∀ l0 h0 l1 h1 l2 h2 : Int32, ((x2 + (l0 + h0)) + (l1 + h1)) + (l2 + h2) = (((((x2 + h0) + l0) + h1) + l1) + h2) + l2 := by
    intro l0 h0 l1 h1 l2 h2
    first | ac_rfl | grind
  rw [e] at h
  refine os_y22s 6 0 (by decide) (fun _ => os_y47p (ax := 0) hr hc (by decide) z ?_) (fun n => absurd rfl n)
  refine os_y22s 5 1 (by decide) (fun n => absurd n (by decide)) (fun _ => os_y47n (ax := 0) hr hc (by decide) z ?_)
  refine os_y22s 4 2 (by decide) (fun _ => os_y47p (ax := 1) hr hc (by decide) z ?_) (fun n => absurd rfl n)
  refine os_y22s 3 3 (by decide) (fun n => absurd n (by decide)) (fun _ => os_y47n (ax := 1) hr hc (by decide) z ?_)
  refine os_y22s 2 4 (by decide) (fun _ => os_y47p (ax := 2) hr hc (by decide) z ?_) (fun n => absurd rfl n)
  refine os_y22s 1 5 (by decide) (fun n => absurd n (by decide)) (fun _ => os_y47n (ax := 2) hr hc (by decide) z ?_)
  exact br_t (by decide) (nm_r (nI_1 c) h)
theorem os_x43s {a : Nat → Int32} {r c : Nat} (hr : r < 4) (hc : c < 512) {post : Int32 → Prop} {J : Int32 → Int32 → Prop} {x3 : Int32} (n ax : Nat) (hx : ax < 3) (h : wX_surface_43 post J (nI (512 * r)) (nI c) a n (x3 + (os_lv a (512 * r) c ax + os_hv a (512 * r) c ax)) (nI (ax + 1))) : wX_surface_43 post J (nI (512 * r)) (nI c) a (n + 1) x3 (nI ax) :=
  br_f (nI_ge (b := 3) hx (by decide)) (os_xop hr hc hx (nm_e (nm_r (nI_1 ax) h)))
theorem os_x43 {a : Nat → Int32} {r c : Nat} (hr : r < 4) (hc : c < 512) {post : Int32 → Prop} {J : Int32 → Int32 → Prop} {x3 : Int32} (h : J (((x3 + (os_lv a (512 * r) c 0 + os_hv a (512 * r) c 0)) + (os_lv a (512 * r) c 1 + os_hv a (512 * r) c 1)) + (os_lv a (512 * r) c 2 + os_hv a (512 * r) c 2)) (nI (c + 1))) : wX_surface_43 post J (nI (512 * r)) (nI c) a 4 x3 (nI 0) :=
  os_x43s hr hc 3 0 (by decide) (os_x43s hr hc 2 1 (by decide) (os_x43s hr hc 1 2 (by decide) (br_t (by decide) (nm_r (nI_1 c) h))))
theorem os_sur (a m : Nat → Int32) (r : Nat) (hr : r < 4) : ∀ d i : Nat, i + d = 512 → ∀ c : Int32, ∃ q : Int32, (∀ post : Int32 → Prop, post q → wX_surface_20 post (nI (512 * r)) a (d + 1) c (nI i)) ∧ (∀ post : Int32 → Prop, post q → wY_surface_4 post (nI r) a m (d + 1) c (nI i)) := by
  intro d
  induction d with
  | zero =>
    intro i hi c
    exact ⟨c, fun _ hp => br_t (os_ge hi) hp, fun _ hp => br_t (os_ge hi) (os_ys hr (br_f os_10 hp))⟩
  | succ d ih =>
    intro i hi c
    have h5 : i < 512 := by omega
    by_cases z : a (512 * r + i) = 0
    · obtain ⟨q, hX, hY⟩ := ih (i + 1) (by omega) c
      exact ⟨q, fun post hp => br_f (os_lt h5) ⟨os_xv hr h5, br_t (by rw [os_xi hr h5]; exact z) (nm_r (nI_1 i) (hX post hp))⟩, fun post hp => br_f (os_lt h5) (os_ys hr (br_f os_10 ⟨7, os_y22z hr h5 z (hY post hp) 6 0 rfl⟩))⟩
    · obtain ⟨q, hX, hY⟩ := ih (i + 1) (by omega) (((c + (os_lv a (512 * r) i 0 + os_hv a (512 * r) i 0)) + (os_lv a (512 * r) i 1 + os_hv a (512 * r) i 1)) + (os_lv a (512 * r) i 2 + os_hv a (512 * r) i 2))
      exact ⟨q, fun post hp => br_f (os_lt h5) ⟨os_xv hr h5, br_f (by rw [os_xi hr h5]; exact z) ⟨4, os_x43 hr h5 (hX post hp)⟩⟩, fun post hp => br_f (os_lt h5) (os_ys hr (br_f os_10 ⟨7, os_y22 hr h5 z (hY post hp)⟩))⟩
theorem i_vc_surface {k : Nat} {u : SX} {v : SY} (I : i_Rel k u v) (hk : k + 5 ≤ 2560) (v1 : Int32) : wpX_surface (fun r => wpY_surface (fun r' => r' = r ∧ i_Rel (k + 5) u v) v v1) u v1 := by
  have J : i_Rel (k + 5) u v := I
  obtain ⟨m, rfl, hB⟩ := os_I I
  unfold wpX_surface wpY_surface
  dsimp only
  rcases os_sol v1 with ⟨r, hr, rfl⟩ | ⟨hx, hy⟩
  · obtain ⟨q, hX, hY⟩ := os_sur u m r hr 512 0 rfl 0
    exact os_xs hr (br_f os_10 (nm_r (os_bx r) ⟨_, hX _ ⟨_, hY _ ⟨rfl, J⟩⟩⟩))
  · exact hx _ (br_t rfl ⟨1, br_f (by decide) (hy _ _ _ (br_t rfl (hy _ _ _ (br_t rfl ⟨rfl, J⟩))))⟩)
