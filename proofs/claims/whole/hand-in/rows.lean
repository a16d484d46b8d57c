section
/-! rows taken from kit/rows (given for pasting) -/
theorem pk_us {f : Nat → Int32} {k : Nat} {x : Int32} : upd f k x k = x := if_pos rfl
theorem pk_un {f : Nat → Int32} {k j : Nat} {x : Int32} (h : j ≠ k) : upd f k x j = f j := if_neg h
theorem pk_sub {a b : Nat} (h : b ≤ a) : nI a - nI b = nI (a - b) := by
  obtain ⟨c, rfl⟩ : ∃ c, a = c + b := ⟨a - b, by omega⟩
  rw [← nI_add, Int32.add_sub_cancel, Nat.add_sub_cancel]
theorem pk_m1 (n : Nat) : nI (n + 1) + (-1) = nI n := by
  rw [← nI_1, Int32.add_assoc, show (1 : Int32) + (-1) = 0 from rfl, Int32.add_zero]
theorem pk_mul (a b : Nat) : nI a * nI b = nI (a * b) := (Int32.ofNat_mul a b).symm
theorem pk_div {a d : Nat} (ha : a < 2 ^ 31) (h0 : 0 < d) (hd : d < 2 ^ 31) : nI a / nI d = nI (a / d) := by
  apply Int32.toInt_inj.mp
  rw [lg_idiv_nonneg (by rw [nI_toInt ha]; omega) (by rw [nI_toInt hd]; omega), nI_toInt ha, nI_toInt hd, nI_toInt (Nat.lt_of_le_of_lt (Nat.div_le_self a d) ha)]
  first | rfl | exact (Int.natCast_ediv _ _).symm
theorem pk_rem {a d : Nat} (ha : a < 2 ^ 31) (h0 : 0 < d) (hd : d < 2 ^ 31) : nI a - nI a / nI d * nI d = nI (a % d) := by
  rw [pk_div ha h0 hd, pk_mul, pk_sub (Nat.div_mul_le_self a d)]
  exact congrArg nI (by have := Nat.div_add_mod' a d; omega)
theorem pk_sub_toInt {a b : Nat} (ha : a < 2 ^ 30) (hb : b < 2 ^ 30) : (nI a - nI b).toInt = (a : Int) - b := by
  rw [Int32.toInt_sub, nI_toInt (by omega), nI_toInt (by omega)]
  exact Int.bmod_eq_of_le (by omega) (by omega)
theorem pk_ix (x : Int32) {n : Nat} (hn : n < 2 ^ 31) : x < 0 ∨ nI n ≤ x ∨ ∃ j : Nat, j < n ∧ x = nI j := by
  by_cases h : x < 0
  · exact Or.inl h
  · obtain ⟨j, hj, rfl⟩ := nI_of h
    by_cases h2 : j < n
    · exact Or.inr (Or.inr ⟨j, h2, rfl⟩)
    · exact Or.inr (Or.inl (nI_le (by omega) hj))
theorem pk_tn {n : Nat} (h : n < 2 ^ 32) : (nI n).toBitVec.toNat = n := Nat.mod_eq_of_lt h
theorem pk_and (x : Int32) {m : Int32} (k : Nat) (hm : m.toBitVec.toNat = 2 ^ k - 1) : x &&& m = nI (x.toBitVec.toNat % 2 ^ k) := by
  apply Int32.toBitVec_inj.mp
  apply BitVec.eq_of_toNat_eq
  rw [Int32.toBitVec_and, BitVec.toNat_and, hm, Nat.and_two_pow_sub_one_eq_mod]
  show _ = (BitVec.ofNat 32 _).toNat
  rw [BitVec.toNat_ofNat]
  exact (Nat.mod_eq_of_lt (Nat.lt_of_le_of_lt (Nat.mod_le _ _) x.toBitVec.isLt)).symm
theorem pk_andN {n : Nat} (h : n < 2 ^ 32) {m : Int32} (k : Nat) (hm : m.toBitVec.toNat = 2 ^ k - 1) : nI n &&& m = nI (n % 2 ^ k) := by
  rw [pk_and _ k hm, pk_tn h]
theorem pk_shl (a s : Int32) (k : Nat) (hs : (s.toBitVec.smod 32).toNat = k) : (a <<< s).toBitVec.toNat = a.toBitVec.toNat * 2 ^ k % 2 ^ 32 := by
  show (a.toBitVec <<< (s.toBitVec.smod 32).toNat).toNat = _
  rw [hs, BitVec.toNat_shiftLeft, Nat.shiftLeft_eq]
theorem pk_shlN {n : Nat} (s : Int32) (k : Nat) (hs : (s.toBitVec.smod 32).toNat = k) (h : n * 2 ^ k < 2 ^ 32) : nI n <<< s = nI (n * 2 ^ k) := by
  apply Int32.toBitVec_inj.mp
  apply BitVec.eq_of_toNat_eq
  have hn : n < 2 ^ 32 := Nat.lt_of_le_of_lt (Nat.le_mul_of_pos_right n (Nat.two_pow_pos k)) h
  rw [pk_shl _ _ k hs, pk_tn hn, pk_tn h, Nat.mod_eq_of_lt h]
theorem pk_shr (a s : Int32) (k : Nat) (hs : (s.toBitVec.smod 32).toNat = k) : (a >>> s).toInt = a.toInt >>> k := by
  show (a.toBitVec.sshiftRight (s.toBitVec.smod 32).toNat).toInt = _
  rw [hs, BitVec.toInt_sshiftRight]
  rfl
theorem pk_shrN {n : Nat} (h : n < 2 ^ 31) (s : Int32) (k : Nat) (hs : (s.toBitVec.smod 32).toNat = k) : nI n >>> s = nI (n / 2 ^ k) := by
  apply Int32.toInt_inj.mp
  have h2 : n / 2 ^ k ≤ n := Nat.div_le_self _ _
  rw [pk_shr _ _ k hs, nI_toInt h, nI_toInt (by omega), Int.shiftRight_eq_div_pow]
  rfl
theorem s_l : ∀ n, n < 32 → ((nI n &&& 31).toBitVec.smod 32).toNat = n := by decide +kernel
theorem nx_and (a b : Nat) : nI a &&& nI b = nI (a &&& b) := by
  apply Int32.toBitVec_inj.1
  show BitVec.ofNat 32 a &&& BitVec.ofNat 32 b = BitVec.ofNat 32 (a &&& b)
  apply BitVec.eq_of_getLsbD_eq
  intro i hi
  simp [hi]
theorem nx_xor (a b : Nat) : nI a ^^^ nI b = nI (a ^^^ b) := by
  apply Int32.toBitVec_inj.1
  show BitVec.ofNat 32 a ^^^ BitVec.ofNat 32 b = BitVec.ofNat 32 (a ^^^ b)
  apply BitVec.eq_of_getLsbD_eq
  intro i hi
  simp [hi]
end
section
/-! the relation: one array of cells, the same function on both sides, each value 0 or 1 -/
def os_B (a : Nat → Int32) : Prop := ∀ j, a j = 0 ∨ a j = 1
def i_Rel (_ : Nat) (u : SX) (v : SY) : Prop := u = v.1 ∧ os_B u
theorem i_up {k : Nat} {u : SX} {v : SY} (h : i_Rel k u v) : i_Rel (k + 5) u v := h
theorem i_vc0 : wpX_init (fun u => wpY_init (fun v => i_Rel 0 u v)) := And.intro rfl (fun _ => Or.inl rfl)
theorem os_I {k : Nat} {u : SX} {v : SY} (h : i_Rel k u v) : ∃ m, v = (u, m) ∧ os_B u := by
  obtain ⟨a, m⟩ := v
  obtain ⟨e, hB⟩ := h
  have e' : u = a := e
  exact ⟨m, by rw [e'], hB⟩
theorem os_10 : ¬ (1 : Int32) = 0 := by decide
theorem os_n1 {x : Int32} (h : x = 0 ∨ x = 1) : vp_nar .boolean x = x := by
  rcases h with rfl | rfl <;> rfl
theorem os_nb {x : Int32} (h : x = 0 ∨ x = 1) : narrow .boolean (.int x) = .int x := by
  rcases h with rfl | rfl <;> rfl
theorem os_bx (r : Nat) : nI r * 512 = nI (512 * r) := by
  rw [Nat.mul_comm]
  exact pk_mul r 512
theorem os_by (r : Nat) : 512 * nI r = nI (512 * r) := pk_mul 512 r
theorem os_xi {r i : Nat} (hr : r < 4) (hi : i < 512) : (nI (512 * r) + nI i).toNatClampNeg = 512 * r + i := by
  rw [nI_add, nI_clamp (by omega)]
theorem os_yi {r i : Nat} (hr : r < 4) (hi : i < 512) : (512 * nI r + nI i).toNatClampNeg = 512 * r + i := by
  rw [os_by, nI_add, nI_clamp (by omega)]
theorem os_xv {r i : Nat} (hr : r < 4) (hi : i < 512) : vp_in (nI (512 * r) + nI i) 2048 := by
  rw [nI_add]
  exact vp_in_nI (by omega) (by decide)
theorem os_yv {r i : Nat} (hr : r < 4) (hi : i < 512) : vp_in (512 * nI r + nI i) 2048 := by
  rw [os_by, nI_add]
  exact vp_in_nI (by omega) (by decide)
theorem os_xs {post : Int32 → Prop} {r : Nat} (hr : r < 4) (h : post 1) : wpX_isSolid post (nI r) :=
  br_f (nI_pos (by omega)) (br_f (nI_ge (b := 4) hr (by decide)) h)
theorem os_ys {post : Int32 → Prop} {a m : Nat → Int32} {r : Nat} (hr : r < 4) (h : post 1) : wpY_solid post (a, m) (nI r) :=
  br_f (nI_pos (by omega)) (br_f (nI_nlt (a := 3) (by omega) (by decide)) h)
theorem os_xc {post : Int32 → Prop} {r : Nat} (hr : r < 512) (h : post 1) : wpX_isCell post (nI r) :=
  br_f (nI_pos (by omega)) (br_f (nI_ge (b := 512) hr (by decide)) h)
theorem os_yc {post : Int32 → Prop} {a m : Nat → Int32} {r : Nat} (hr : r < 512) (h : post 1) : wpY_cell post (a, m) (nI r) :=
  br_f (nI_pos (by omega)) (br_f (nI_nlt (a := 511) (by omega) (by decide)) h)
theorem os_sol (p : Int32) : (∃ r, r < 4 ∧ p = nI r) ∨ ((∀ post : Int32 → Prop, post 0 → wpX_isSolid post p) ∧ (∀ (post : Int32 → Prop) (a m : Nat → Int32), post 0 → wpY_solid post (a, m) p)) := by
  by_cases h : p < 0
  · exact Or.inr ⟨fun _ hp => br_t h hp, fun _ _ _ hp => br_t h hp⟩
  · obtain ⟨j, hj, rfl⟩ := nI_of h
    by_cases h4 : j < 4
    · exact Or.inl ⟨j, h4, rfl⟩
    · exact Or.inr ⟨fun _ hp => br_f h (br_t (nI_le (a := 4) (by omega) hj) hp), fun _ _ _ hp => br_f h (br_t (nI_lt (a := 3) (by omega) hj) hp)⟩
theorem os_cel (p : Int32) : (∃ r, r < 512 ∧ p = nI r) ∨ ((∀ post : Int32 → Prop, post 0 → wpX_isCell post p) ∧ (∀ (post : Int32 → Prop) (a m : Nat → Int32), post 0 → wpY_cell post (a, m) p)) := by
  by_cases h : p < 0
  · exact Or.inr ⟨fun _ hp => br_t h hp, fun _ _ _ hp => br_t h hp⟩
  · obtain ⟨j, hj, rfl⟩ := nI_of h
    by_cases h4 : j < 512
    · exact Or.inl ⟨j, h4, rfl⟩
    · exact Or.inr ⟨fun _ hp => br_f h (br_t (nI_le (a := 512) (by omega) hj) hp), fun _ _ _ hp => br_f h (br_t (nI_lt (a := 511) (by omega) hj) hp)⟩
theorem os_ge {i : Nat} (h : i = 512) : (512 : Int32) ≤ nI i := nI_le (a := 512) (by omega) (by omega)
theorem os_lt {i : Nat} (h : i < 512) : ¬ (512 : Int32) ≤ nI i := nI_ge (b := 512) h (by decide)
/-! all from i on -/
def os_Al (Q : Nat → Prop) (i N : Nat) : Prop := ∀ j, i ≤ j → j < N → Q j
theorem os_al_s {Q : Nat → Prop} {i N : Nat} (hq : Q i) (h : os_Al Q (i + 1) N) : os_Al Q i N := by
  intro j h1 h2
  by_cases e : j = i
  · rw [e]; exact hq
  · exact h j (by omega) h2
theorem os_al_n {Q : Nat → Prop} {i N : Nat} (h : ¬ os_Al Q (i + 1) N) : ¬ os_Al Q i N :=
  fun g => h (fun j h1 h2 => g j (by omega) h2)
theorem os_al_f {Q : Nat → Prop} {i N : Nat} (hi : i < N) (hq : ¬ Q i) : ¬ os_Al Q i N :=
  fun g => hq (g i (Nat.le_refl i) hi)
theorem os_al_0 {Q : Nat → Prop} {i N : Nat} (h : N ≤ i) : os_Al Q i N := fun j h1 h2 => absurd h2 (by omega)
end
section
/-! has, volume, inside, same, next -/
theorem i_vc_has {k : Nat} {u : SX} {v : SY} (I : i_Rel k u v) (hk : k + 5 ≤ 2560) (v1 : Int32) (v2 : Int32) : wpX_has (fun r => wpY_has (fun r' => r' = r ∧ i_Rel (k + 5) u v) v v1 v2) u v1 v2 := by
  have J : i_Rel (k + 5) u v := I
  obtain ⟨m, rfl, hB⟩ := os_I I
  unfold wpX_has wpY_has
  dsimp only
  rcases os_sol v1 with ⟨r, hr, rfl⟩ | ⟨hx, hy⟩
  · refine os_xs hr (br_f os_10 ?_)
    rcases os_cel v2 with ⟨c, hc, rfl⟩ | ⟨hx, hy⟩
    · refine os_xc hc (br_f os_10 ?_)
      rw [os_bx]
      refine ⟨os_xv hr hc, ?_⟩
      rw [os_xi hr hc]
      refine br_c (fun z => ?_) (fun z => ?_)
      · refine os_ys hr (br_f os_10 (os_yc hc (br_f os_10 ⟨os_yv hr hc, br_t ?_ ⟨rfl, J⟩⟩)))
        rw [os_yi hr hc]; exact z
      · refine os_ys hr (br_f os_10 (os_yc hc (br_f os_10 ⟨os_yv hr hc, br_f ?_ ⟨rfl, J⟩⟩)))
        rw [os_yi hr hc]; exact z
    · exact hx _ (br_t rfl (os_ys hr (br_f os_10 (hy _ _ _ (br_t rfl ⟨rfl, J⟩)))))
  · exact hx _ (br_t rfl (hy _ _ _ (br_t rfl ⟨rfl, J⟩)))
theorem os_vol (a m : Nat → Int32) (r : Nat) (hr : r < 4) : ∀ d i : Nat, i + d = 512 → ∀ c : Int32, ∃ q : Int32, (∀ post : Int32 → Prop, post q → wX_volume_20 post (nI (512 * r)) a (d + 1) c (nI i)) ∧ (∀ post : Int32 → Prop, post q → wY_volume_4 post (nI r) a m (d + 1) c (nI i)) := by
  intro d
  induction d with
  | zero =>
    intro i hi c
    exact ⟨c, fun _ hp => br_t (os_ge hi) hp, fun _ hp => br_t (os_ge hi) (os_ys hr (br_f os_10 hp))⟩
  | succ d ih =>
    intro i hi c
    have h5 : i < 512 := by omega
    by_cases z : a (512 * r + i) = 0
    · obtain ⟨q, hX, hY⟩ := ih (i + 1) (by omega) c
      refine ⟨q, fun post hp => br_f (os_lt h5) ⟨os_xv hr h5, br_t (by rw [os_xi hr h5]; exact z) (nm_r (nI_1 i) (hX post hp))⟩, fun post hp => br_f (os_lt h5) (os_ys hr (br_f os_10 ⟨os_yv hr h5, br_t (by rw [os_yi hr h5]; exact z) (nm_r (nI_1 i) (hY post hp))⟩))⟩
    · obtain ⟨q, hX, hY⟩ := ih (i + 1) (by omega) (c + 1)
      refine ⟨q, fun post hp => br_f (os_lt h5) ⟨os_xv hr h5, br_f (by rw [os_xi hr h5]; exact z) (nm_e (nm_r (nI_1 i) (hX post hp)))⟩, fun post hp => br_f (os_lt h5) (os_ys hr (br_f os_10 ⟨os_yv hr h5, br_f (by rw [os_yi hr h5]; exact z) (nm_e (nm_r (nI_1 i) (hY post hp)))⟩))⟩
theorem i_vc_volume {k : Nat} {u : SX} {v : SY} (I : i_Rel k u v) (hk : k + 5 ≤ 2560) (v1 : Int32) : wpX_volume (fun r => wpY_volume (fun r' => r' = r ∧ i_Rel (k + 5) u v) v v1) u v1 := by
  have J : i_Rel (k + 5) u v := I
  obtain ⟨m, rfl, hB⟩ := os_I I
  unfold wpX_volume wpY_volume
  dsimp only
  rcases os_sol v1 with ⟨r, hr, rfl⟩ | ⟨hx, hy⟩
  · obtain ⟨q, hX, hY⟩ := os_vol u m r hr 512 0 rfl 0
    exact os_xs hr (br_f os_10 (nm_r (os_bx r) ⟨_, hX _ ⟨_, hY _ ⟨rfl, J⟩⟩⟩))
  · refine hx _ (br_t rfl ⟨1, br_f (by decide) (hy _ _ _ (br_t rfl (hy _ _ _ (br_t rfl ⟨rfl, J⟩))))⟩)
theorem os_xsame (a : Nat → Int32) {r s : Nat} (hr : r < 4) (hs : s < 4) (post : Int32 → Prop) : ∀ d i : Nat, i + d = 512 → (os_Al (fun j => a (512 * r + j) = a (512 * s + j)) i 512 → post 1) → (¬ os_Al (fun j => a (512 * r + j) = a (512 * s + j)) i 512 → post 0) → wX_same_32 post (nI (512 * r)) (nI (512 * s)) a (d + 1) (nI i) := by
  intro d
  induction d with
  | zero =>
    intro i hi h1 h0
    exact br_t (os_ge hi) (h1 (os_al_0 (by omega)))
  | succ d ih =>
    intro i hi h1 h0
    have h5 : i < 512 := by omega
    by_cases z : a (512 * r + i) = a (512 * s + i)
    · exact br_f (os_lt h5) ⟨os_xv hr h5, os_xv hs h5, br_t (by rw [os_xi hr h5, os_xi hs h5]; exact z) (nm_r (nI_1 i) (ih (i + 1) (by omega) (fun g => h1 (os_al_s z g)) (fun g => h0 (os_al_n g))))⟩
    · exact br_f (os_lt h5) ⟨os_xv hr h5, os_xv hs h5, br_f (by rw [os_xi hr h5, os_xi hs h5]; exact z) (h0 (os_al_f h5 z))⟩
theorem os_xins (a : Nat → Int32) {r s : Nat} (hr : r < 4) (hs : s < 4) (post : Int32 → Prop) : ∀ d i : Nat, i + d = 512 → (os_Al (fun j => a (512 * r + j) = 0 ∨ ¬ a (512 * s + j) = 0) i 512 → post 1) → (¬ os_Al (fun j => a (512 * r + j) = 0 ∨ ¬ a (512 * s + j) = 0) i 512 → post 0) → wX_inside_32 post (nI (512 * r)) (nI (512 * s)) a (d + 1) (nI i) := by
  intro d
  induction d with
  | zero =>
    intro i hi h1 h0
    exact br_t (os_ge hi) (h1 (os_al_0 (by omega)))
  | succ d ih =>
    intro i hi h1 h0
    have h5 : i < 512 := by omega
    by_cases z : a (512 * r + i) = 0
    · exact br_f (os_lt h5) ⟨os_xv hr h5, br_t (by rw [os_xi hr h5]; exact z) (nm_r (nI_1 i) (ih (i + 1) (by omega) (fun g => h1 (os_al_s (Or.inl z) g)) (fun g => h0 (os_al_n g))))⟩
    · by_cases w : a (512 * s + i) = 0
      · exact br_f (os_lt h5) ⟨os_xv hr h5, br_f (by rw [os_xi hr h5]; exact z) ⟨os_xv hs h5, br_t (by rw [os_xi hs h5]; exact w) (h0 (os_al_f h5 (fun g => g.elim z (fun g => g w))))⟩⟩
      · exact br_f (os_lt h5) ⟨os_xv hr h5, br_f (by rw [os_xi hr h5]; exact z) ⟨os_xv hs h5, br_f (by rw [os_xi hs h5]; exact w) (nm_r (nI_1 i) (ih (i + 1) (by omega) (fun g => h1 (os_al_s (Or.inr w) g)) (fun g => h0 (os_al_n g))))⟩⟩
theorem os_yin0 {post : Int32 → Prop} {x1 x2 x : Int32} {a m : Nat → Int32} (n : Nat) (h : post 0) : wY_inside_25 post x1 x2 a m (n + 1) 0 x :=
  br_c (fun _ => ⟨rfl, h⟩) (fun _ => br_t rfl ⟨rfl, h⟩)
theorem os_yins (a m : Nat → Int32) {r s : Nat} (hr : r < 4) (hs : s < 4) (post : Int32 → Prop) : ∀ d i : Nat, i + d = 512 → (os_Al (fun j => a (512 * r + j) = 0 ∨ ¬ a (512 * s + j) = 0) i 512 → post 1) → (¬ os_Al (fun j => a (512 * r + j) = 0 ∨ ¬ a (512 * s + j) = 0) i 512 → post 0) → wY_inside_25 post (nI r) (nI s) a m (d + 1) 1 (nI i) := by
  intro d
  induction d with
  | zero =>
    intro i hi h1 h0
    exact br_t (os_ge hi) ⟨rfl, h1 (os_al_0 (by omega))⟩
  | succ d ih =>
    intro i hi h1 h0
    have h5 : i < 512 := by omega
    by_cases z : a (512 * r + i) = 0
    · exact br_f (os_lt h5) (br_f os_10 ⟨os_yv hr h5, br_t (by rw [os_yi hr h5]; exact z) (nm_r (nI_1 i) (ih (i + 1) (by omega) (fun g => h1 (os_al_s (Or.inl z) g)) (fun g => h0 (os_al_n g))))⟩)
    · by_cases w : a (512 * s + i) = 0
      · exact br_f (os_lt h5) (br_f os_10 ⟨os_yv hr h5, br_f (by rw [os_yi hr h5]; exact z) ⟨os_yv hs h5, br_t (by rw [os_yi hs h5]; exact w) (nm_e (os_yin0 d (h0 (os_al_f h5 (fun g => g.elim z (fun g => g w))))))⟩⟩)
      · exact br_f (os_lt h5) (br_f os_10 ⟨os_yv hr h5, br_f (by rw [os_yi hr h5]; exact z) ⟨os_yv hs h5, br_f (by rw [os_yi hs h5]; exact w) (nm_r (nI_1 i) (ih (i + 1) (by omega) (fun g => h1 (os_al_s (Or.inr w) g)) (fun g => h0 (os_al_n g))))⟩⟩)
theorem os_yinw (a m : Nat → Int32) {r s : Nat} (hr : r < 4) (hs : s < 4) (post : Int32 → Prop) (h1 : os_Al (fun j => a (512 * r + j) = 0 ∨ ¬ a (512 * s + j) = 0) 0 512 → post 1) (h0 : ¬ os_Al (fun j => a (512 * r + j) = 0 ∨ ¬ a (512 * s + j) = 0) 0 512 → post 0) : wpY_inside post (a, m) (nI r) (nI s) := by
  unfold wpY_inside
  dsimp only
  exact os_ys hr (br_f os_10 (os_ys hs (br_f os_10 ⟨_, os_yins a m hr hs post 512 0 rfl h1 h0⟩)))
theorem i_vc_inside {k : Nat} {u : SX} {v : SY} (I : i_Rel k u v) (hk : k + 5 ≤ 2560) (v1 : Int32) (v2 : Int32) : wpX_inside (fun r => wpY_inside (fun r' => r' = r ∧ i_Rel (k + 5) u v) v v1 v2) u v1 v2 := by
  have J : i_Rel (k + 5) u v := I
  obtain ⟨m, rfl, hB⟩ := os_I I
  rcases os_sol v1 with ⟨r, hr, rfl⟩ | ⟨hx, hy⟩
  · rcases os_sol v2 with ⟨s, hs, rfl⟩ | ⟨hx, hy⟩
    · unfold wpX_inside
      refine os_xs hr (br_f os_10 (os_xs hs (br_f os_10 (nm_r (os_bx r) (nm_r (os_bx s) ⟨_, os_xins u hr hs _ 512 0 rfl (fun g => ?_) (fun g => ?_)⟩)))))
      · exact os_yinw u m hr hs _ (fun _ => ⟨rfl, J⟩) (fun n => absurd g n)
      · exact os_yinw u m hr hs _ (fun n => absurd n g) (fun _ => ⟨rfl, J⟩)
    · unfold wpX_inside wpY_inside
      dsimp only
      exact os_xs hr (br_f os_10 (hx _ (br_t rfl (os_ys hr (br_f os_10 (hy _ _ _ (br_t rfl ⟨1, os_yin0 0 ⟨rfl, J⟩⟩)))))))
  · unfold wpX_inside wpY_inside
    dsimp only
    exact hx _ (br_t rfl (hy _ _ _ (br_t rfl ⟨1, os_yin0 0 ⟨rfl, J⟩⟩)))
theorem os_yinb (a m : Nat → Int32) (p q : Int32) (post : Int32 → Prop) (h : (∀ (post : Int32 → Prop) (a m : Nat → Int32), post 0 → wpY_solid post (a, m) p) ∨ (∃ r, r < 4 ∧ p = nI r) ∧ (∀ (post : Int32 → Prop) (a m : Nat → Int32), post 0 → wpY_solid post (a, m) q)) (h0 : post 0) : wpY_inside post (a, m) p q := by
  unfold wpY_inside
  dsimp only
  rcases h with h | ⟨⟨r, hr, rfl⟩, h⟩
  · exact h _ _ _ (br_t rfl ⟨1, os_yin0 0 h0⟩)
  · exact os_ys hr (br_f os_10 (h _ _ _ (br_t rfl ⟨1, os_yin0 0 h0⟩)))
theorem i_vc_same {k : Nat} {u : SX} {v : SY} (I : i_Rel k u v) (hk : k + 5 ≤ 2560) (v1 : Int32) (v2 : Int32) : wpX_same (fun r => wpY_same (fun r' => r' = r ∧ i_Rel (k + 5) u v) v v1 v2) u v1 v2 := by
  have J : i_Rel (k + 5) u v := I
  obtain ⟨m, rfl, hB⟩ := os_I I
  unfold wpX_same wpY_same
  dsimp only
  rcases os_sol v1 with ⟨r, hr, rfl⟩ | ⟨hx, hy⟩
  · rcases os_sol v2 with ⟨s, hs, rfl⟩ | ⟨hx, hy⟩
    · refine os_xs hr (br_f os_10 (os_xs hs (br_f os_10 (nm_r (os_bx r) (nm_r (os_bx s) ⟨_, os_xsame u hr hs _ 512 0 rfl (fun g => ?_) (fun g => ?_)⟩)))))
      · refine os_yinw u m hr hs _ (fun _ => br_f os_10 (os_yinw u m hs hr _ (fun _ => br_f os_10 ⟨rfl, J⟩) (fun n => ?_))) (fun n => ?_)
        · refine absurd (fun j h1 h2 => ?_) n
          have e := g j h1 h2
          dsimp only at e ⊢
          rw [e]
          exact Classical.em _
        · refine absurd (fun j h1 h2 => ?_) n
          have e := g j h1 h2
          dsimp only at e ⊢
          rw [e]
          exact Classical.em _
      · refine os_yinw u m hr hs _ (fun p1 => br_f os_10 (os_yinw u m hs hr _ (fun p2 => ?_) (fun _ => br_t rfl ⟨rfl, J⟩))) (fun _ => br_t rfl ⟨rfl, J⟩)
        refine absurd (fun j h1 h2 => ?_) g
        have e1 := p1 j h1 h2
        have e2 := p2 j h1 h2
        dsimp only at e1 e2 ⊢
        rcases hB (512 * r + j) with x | x <;> rcases hB (512 * s + j) with y | y <;> rw [x, y] at e1 e2 ⊢
        · exact absurd e2 (by decide)
        · exact absurd e1 (by decide)
    · exact os_xs hr (br_f os_10 (hx _ (br_t rfl (os_yinb u m _ _ _ (Or.inr ⟨⟨r, hr, rfl⟩, hy⟩) (br_t rfl ⟨rfl, J⟩)))))
  · exact hx _ (br_t rfl (os_yinb u m _ _ _ (Or.inl hy) (br_t rfl ⟨rfl, J⟩)))
theorem os_nxt (a m : Nat → Int32) (r : Nat) (hr : r < 4) (c : Int32) : ∀ d i : Nat, i + d = 512 → (∀ e, i ≤ e → e < 512 → ¬ nI e < c) → ∃ q : Int32, (∀ post : Int32 → Prop, post q → wX_next_30 post (nI (512 * r)) a (d + 1) (nI i)) ∧ (∀ post : Int32 → Prop, post q → wY_next_2 post (nI r) c a m (d + 1) (nI i)) := by
  intro d
  induction d with
  | zero =>
    intro i hi hc
    exact ⟨-1, fun _ hp => br_t (os_ge hi) hp, fun _ hp => br_t (os_ge hi) hp⟩
  | succ d ih =>
    intro i hi hc
    have h5 : i < 512 := by omega
    by_cases z : a (512 * r + i) = 0
    · obtain ⟨q, hX, hY⟩ := ih (i + 1) (by omega) (fun e h1 h2 => hc e (by omega) h2)
      exact ⟨q, fun post hp => br_f (os_lt h5) ⟨os_xv hr h5, br_t (by rw [os_xi hr h5]; exact z) (nm_r (nI_1 i) (hX post hp))⟩, fun post hp => br_f (os_lt h5) (os_ys hr (br_f os_10 (br_f (hc i (Nat.le_refl i) h5) ⟨os_yv hr h5, br_t (by rw [os_yi hr h5]; exact z) (nm_r (nI_1 i) (hY post hp))⟩)))⟩
    · exact ⟨nI i, fun post hp => br_f (os_lt h5) ⟨os_xv hr h5, br_f (by rw [os_xi hr h5]; exact z) hp⟩, fun post hp => br_f (os_lt h5) (os_ys hr (br_f os_10 (br_f (hc i (Nat.le_refl i) h5) ⟨os_yv hr h5, br_f (by rw [os_yi hr h5]; exact z) hp⟩)))⟩
theorem os_nsk (a m : Nat → Int32) (r : Nat) (hr : r < 4) (c : Int32) (post : Int32 → Prop) (n : Nat) : ∀ d i : Nat, i + d ≤ 512 → (∀ e, i ≤ e → e < i + d → nI e < c) → wY_next_2 post (nI r) c a m n (nI (i + d)) → wY_next_2 post (nI r) c a m (n + d) (nI i) := by
  intro d
  induction d with
  | zero => intro i hi hc h; exact h
  | succ d ih =>
    intro i hi hc h
    have h5 : i < 512 := by omega
    refine br_f (os_lt h5) (os_ys hr (br_f os_10 (br_t (hc i (Nat.le_refl i) (by omega)) (nm_r (nI_1 i) (ih (i + 1) (by omega) (fun e h1 h2 => hc e (by omega) (by omega)) ?_)))))
    rw [show i + 1 + d = i + (d + 1) by omega]
    exact h
theorem i_vc_next {k : Nat} {u : SX} {v : SY} (I : i_Rel k u v) (hk : k + 5 ≤ 2560) (v1 : Int32) (v2 : Int32) : wpX_next (fun r => wpY_next (fun r' => r' = r ∧ i_Rel (k + 5) u v) v v1 v2) u v1 v2 := by
  have J : i_Rel (k + 5) u v := I
  obtain ⟨m, rfl, hB⟩ := os_I I
  unfold wpX_next wpY_next
  dsimp only
  rcases os_sol v1 with ⟨r, hr, rfl⟩ | ⟨hx, hy⟩
  · refine os_xs hr (br_f os_10 (nm_r (os_bx r) ?_))
    by_cases h : v2 < 0
    · have hn : ¬ 0 ≤ v2 := by
        rw [Int32.le_iff_toInt_le]
        rw [Int32.lt_iff_toInt_lt] at h
        omega
      have hc : ∀ e, 0 ≤ e → e < 512 → ¬ nI e < v2 := by
        intro e _ he hh
        have h1 := nI_pos' (n := e) (by omega)
        rw [Int32.le_iff_toInt_le] at h1
        rw [Int32.lt_iff_toInt_lt] at h hh
        omega
      obtain ⟨q, hX, hY⟩ := os_nxt u m r hr v2 512 0 rfl hc
      exact br_f hn ⟨_, hX _ ⟨_, hY _ ⟨rfl, J⟩⟩⟩
    · obtain ⟨j, hj, rfl⟩ := nI_of h
      refine br_t (nI_pos' hj) ?_
      by_cases h5 : j < 512
      · obtain ⟨q, hX, hY⟩ := os_nxt u m r hr (nI j) (512 - j) j (by omega) (fun e h1 h2 => nI_nlt h1 (by omega))
        refine ⟨_, hX _ ⟨512 - j + 1 + j, ?_⟩⟩
        refine os_nsk u m r hr (nI j) _ (512 - j + 1) j 0 (by omega) (fun e h1 h2 => nI_lt (by omega) hj) ?_
        rw [Nat.zero_add]
        exact hY _ ⟨rfl, J⟩
      · refine ⟨1, br_t (nI_le (a := 512) (by omega) hj) ⟨1 + 512, ?_⟩⟩
        exact os_nsk u m r hr (nI j) _ 1 512 0 (by omega) (fun e h1 h2 => nI_lt (by omega) hj) (br_t (os_ge rfl) ⟨rfl, J⟩)
  · exact hx _ (br_t rfl ⟨1, br_f (by decide) (hy _ _ _ (br_t rfl ⟨rfl, J⟩))⟩)
end
section
/-! box -/
abbrev os_co (c ax : Int32) : Int32 := (c >>> ((3 * ax) &&& 31)) &&& 7
def os_bt (v p q : Int32) : Prop := (p.toInt ≤ v.toInt ∧ v.toInt ≤ q.toInt) ∨ (q.toInt ≤ v.toInt ∧ v.toInt ≤ p.toInt)
def os_in (e c d : Int32) : Prop := os_bt (os_co e 0) (os_co c 0) (os_co d 0) ∧ os_bt (os_co e 1) (os_co c 1) (os_co d 1) ∧ os_bt (os_co e 2) (os_co c 2) (os_co d 2)
theorem os_xb42 {post J : Int32 → Prop} {x0 x1 x2 x3 x3' v p q : Int32} (hv : p.toInt ≤ v.toInt ∨ q.toInt ≤ v.toInt) (e : x3 + 1 = x3') (h1 : os_bt v p q → J x3') (h0 : ¬ os_bt v p q → post 0) : wX_isInBox_42 post J x0 x1 x2 x3 v p q := by
  refine br_c (fun h2 => ?_) (fun h2 => br_c (fun h3 => ?_) (fun h3 => ?_))
  · rw [Int32.le_iff_toInt_le] at h2
    exact nm_r e (h1 (by unfold os_bt; omega))
  · rw [Int32.le_iff_toInt_le] at h2 h3
    exact nm_r e (h1 (by unfold os_bt; omega))
  · rw [Int32.le_iff_toInt_le] at h2 h3
    exact h0 (by unfold os_bt; omega)
theorem os_xib1 {post : Int32 → Prop} {e c d ax ax' : Int32} (n : Nat) (h3 : ¬ 3 ≤ ax) (hax : ax + 1 = ax') (h1 : os_bt (os_co e ax) (os_co c ax) (os_co d ax) → wX_isInBox_2 post e c d n ax') (h0 : ¬ os_bt (os_co e ax) (os_co c ax) (os_co d ax) → post 0) : wX_isInBox_2 post e c d (n + 1) ax := by
  refine br_f h3 ?_
  unfold wpX_coordinate
  dsimp only
  refine br_c (fun h2 => ?_) (fun h2 => br_c (fun h4 => ?_) (fun h4 => ?_))
  · rw [Int32.le_iff_toInt_le] at h2
    exact os_xb42 (Or.inl h2) hax h1 h0
  · rw [Int32.le_iff_toInt_le] at h2
    rw [Int32.lt_iff_toInt_lt] at h4
    refine h0 ?_
    unfold os_bt os_co
    omega
  · rw [Int32.le_iff_toInt_le] at h2
    rw [Int32.lt_iff_toInt_lt] at h4
    exact os_xb42 (Or.inr (by omega)) hax h1 h0
theorem os_xib {post : Int32 → Prop} {e c d : Int32} (h1 : os_in e c d → post 1) (h0 : ¬ os_in e c d → post 0) : wpX_isInBox post e c d := by
  refine ⟨4, os_xib1 (ax' := 1) 3 (by decide) (by decide) (fun b0 => ?_) (fun b => h0 (fun g => b g.1))⟩
  refine os_xib1 (ax' := 2) 2 (by decide) (by decide) (fun b1 => ?_) (fun b => h0 (fun g => b g.2.1))
  refine os_xib1 (ax' := 3) 1 (by decide) (by decide) (fun b2 => ?_) (fun b => h0 (fun g => b g.2.2))
  exact br_t (by decide) (h1 ⟨b0, b1, b2⟩)
theorem os_yb41 {post : Int32 → Prop} {v p q : Int32} {a m : Nat → Int32} (hv : ¬ (p.toInt ≤ v.toInt ∧ v.toInt ≤ q.toInt)) (h1 : os_bt v p q → post 1) (h0 : ¬ os_bt v p q → post 0) : wY_between_41 post v p q a m := by
  refine br_c (fun h2 => ?_) (fun h2 => br_c (fun h3 => ?_) (fun h3 => ?_))
  · rw [Int32.lt_iff_toInt_lt] at h2
    exact h0 (by unfold os_bt; omega)
  · rw [Int32.lt_iff_toInt_lt] at h2 h3
    exact h0 (by unfold os_bt; omega)
  · rw [Int32.lt_iff_toInt_lt] at h2 h3
    exact h1 (by unfold os_bt; omega)
theorem os_ybt {post : Int32 → Prop} {a m : Nat → Int32} {e c d ax : Int32} (h1 : os_bt (os_co e ax) (os_co c ax) (os_co d ax) → post 1) (h0 : ¬ os_bt (os_co e ax) (os_co c ax) (os_co d ax) → post 0) : wpY_between post (a, m) e c d ax := by
  unfold wpY_between wpY_part
  dsimp only
  refine br_c (fun h2 => ?_) (fun h2 => br_c (fun h4 => ?_) (fun h4 => ?_))
  · rw [Int32.lt_iff_toInt_lt] at h2
    exact os_yb41 (by omega) h1 h0
  · rw [Int32.lt_iff_toInt_lt] at h2
    rw [Int32.le_iff_toInt_le] at h4
    refine h1 ?_
    unfold os_bt os_co
    omega
  · rw [Int32.lt_iff_toInt_lt] at h2
    rw [Int32.le_iff_toInt_le] at h4
    exact os_yb41 (by omega) h1 h0
theorem os_us (a : Nat → Int32) (j : Nat) : upd a j (a j) = a := by
  funext i
  by_cases h : i = j
  · rw [h, pk_us]
  · rw [pk_un h]
theorem os_uB {a : Nat → Int32} (h : os_B a) (j : Nat) {x : Int32} (hx : x = 0 ∨ x = 1) : os_B (upd a j x) := by
  intro i
  by_cases e : i = j
  · rw [e, pk_us]; exact hx
  · rw [pk_un e]; exact h i
theorem os_y88 {post : Int32 → SY → Prop} {J : Int32 → (Nat → Int32) → (Nat → Int32) → Prop} {r i : Nat} {x2 x3 x4 : Int32} {a m : Nat → Int32} (hr : r < 4) (hi : i < 512) (hB : os_B a) (h : J (nI (i + 1)) a m) : wY_box_88 post J (nI r) x2 x3 x4 (nI i) a m :=
  br_t rfl ⟨os_yv hr hi, os_yv hr hi, nm_r (by rw [os_n1 (hB _), os_us]) (nm_r (nI_1 i) h)⟩
theorem os_box (m : Nat → Int32) (r : Nat) (hr : r < 4) (c d w : Int32) : ∀ t i : Nat, i + t = 512 → ∀ a : Nat → Int32, os_B a → ∃ a' : Nat → Int32, os_B a' ∧ (∀ post : Int32 → SX → Prop, post 1 a' → wX_box_44 post c d w (nI (512 * r)) (t + 1) (nI i) a) ∧ (∀ post : Int32 → SY → Prop, post 1 (a', m) → wY_box_40 post (nI r) c d w (t + 1) (nI i) a m) := by
  intro t
  induction t with
  | zero =>
    intro i hi a hB
    exact ⟨a, hB, fun _ hp => br_t (os_ge hi) hp, fun _ hp => br_t (os_ge hi) hp⟩
  | succ t ih =>
    intro i hi a hB
    have h5 : i < 512 := by omega
    by_cases hin : os_in (nI i) c d
    · by_cases hw : w = 1
      · obtain ⟨a', hB', hX, hY⟩ := ih (i + 1) (by omega) (upd a (512 * r + i) 1) (os_uB hB _ (Or.inr rfl))
        refine ⟨a', hB', fun post hp => br_f (os_lt h5) (os_xib (fun _ => br_f os_10 (br_t hw ⟨os_xv hr h5, nm_r (by rw [os_xi hr h5, os_n1 (Or.inr rfl)]) (nm_r (nI_1 i) (hX post hp))⟩)) (fun n => absurd hin n)), fun post hp => br_f (os_lt h5) ?_⟩
        exact os_ybt (fun _ => br_f os_10 (os_ybt (fun _ => br_f os_10 (os_ybt (fun _ => br_f os_10 (br_f os_10 (br_t hw ⟨os_yv hr h5, nm_r (by rw [os_yi hr h5, os_n1 (Or.inr rfl)]) (nm_r (nI_1 i) (hY post hp))⟩))) (fun n => absurd hin.2.2 n))) (fun n => absurd hin.2.1 n))) (fun n => absurd hin.1 n)
      · obtain ⟨a', hB', hX, hY⟩ := ih (i + 1) (by omega) (upd a (512 * r + i) 0) (os_uB hB _ (Or.inl rfl))
        refine ⟨a', hB', fun post hp => br_f (os_lt h5) (os_xib (fun _ => br_f os_10 (br_f hw ⟨os_xv hr h5, nm_r (by rw [os_xi hr h5, os_n1 (Or.inl rfl)]) (nm_r (nI_1 i) (hX post hp))⟩)) (fun n => absurd hin n)), fun post hp => br_f (os_lt h5) ?_⟩
        exact os_ybt (fun _ => br_f os_10 (os_ybt (fun _ => br_f os_10 (os_ybt (fun _ => br_f os_10 (br_f os_10 (br_f hw ⟨os_yv hr h5, nm_r (by rw [os_yi hr h5, os_n1 (Or.inl rfl)]) (nm_r (nI_1 i) (hY post hp))⟩))) (fun n => absurd hin.2.2 n))) (fun n => absurd hin.2.1 n))) (fun n => absurd hin.1 n)
    · obtain ⟨a', hB', hX, hY⟩ := ih (i + 1) (by omega) a hB
      refine ⟨a', hB', fun post hp => br_f (os_lt h5) (os_xib (fun y => absurd y hin) (fun _ => br_t rfl (nm_r (nI_1 i) (hX post hp)))), fun post hp => br_f (os_lt h5) ?_⟩
      exact os_ybt (fun b0 => br_f os_10 (os_ybt (fun b1 => br_f os_10 (os_ybt (fun b2 => absurd ⟨b0, b1, b2⟩ hin) (fun _ => br_t rfl (os_y88 hr h5 hB (hY post hp))))) (fun _ => br_t rfl (os_y88 hr h5 hB (hY post hp))))) (fun _ => br_t rfl (os_y88 hr h5 hB (hY post hp)))
theorem i_vc_box {k : Nat} {u : SX} {v : SY} (I : i_Rel k u v) (hk : k + 5 ≤ 2560) (v1 : Int32) (v2 : Int32) (v3 : Int32) (v4 : Int32) : wpX_box (fun r u' => wpY_box (fun r' v' => r' = r ∧ i_Rel (k + 5) u' v') v v1 v2 v3 v4) u v1 v2 v3 v4 := by
  have J : i_Rel (k + 5) u v := I
  obtain ⟨m, rfl, hB⟩ := os_I I
  unfold wpX_box wpY_box
  dsimp only
  rcases os_sol v1 with ⟨r, hr, rfl⟩ | ⟨hx, hy⟩
  · refine os_xs hr (br_f os_10 ?_)
    rcases os_cel v2 with ⟨c, hc, rfl⟩ | ⟨hx, hy⟩
    · refine os_xc hc (br_f os_10 ?_)
      rcases os_cel v3 with ⟨d, hd, rfl⟩ | ⟨hx, hy⟩
      · refine os_xc hd (br_f os_10 ?_)
        obtain ⟨a', hB', hX, hY⟩ := os_box m r hr (nI c) (nI d) v4 512 0 rfl u hB
        refine br_c (fun h => ?_) (fun h => br_c (fun h1 => nm_r (os_bx r) ⟨_, hX _ ?_⟩) (fun h1 => ?_))
        · have n0 : ¬ v4 = 0 := by rintro rfl; exact absurd h (by decide)
          have n1 : ¬ v4 = 1 := by rintro rfl; exact absurd h (by decide)
          exact os_ys hr (br_f os_10 (os_yc hc (br_f os_10 (os_yc hd (br_f os_10 (br_f n0 (br_f n1 ⟨rfl, J⟩)))))))
        · refine os_ys hr (br_f os_10 (os_yc hc (br_f os_10 (os_yc hd (br_f os_10 ?_)))))
          refine br_c (fun _ => ⟨_, hY _ ⟨rfl, And.intro rfl hB'⟩⟩) (fun n0 => br_c (fun _ => ⟨_, hY _ ⟨rfl, And.intro rfl hB'⟩⟩) (fun n1 => ?_))
          obtain ⟨j, hj, rfl⟩ := nI_of h
          have hj1 : j ≤ 1 := (nI_leI (b := 1) hj (by decide)).mp h1
          have hj2 : j = 0 ∨ j = 1 := by omega
          rcases hj2 with rfl | rfl
          · exact absurd nI_0 n0
          · exact absurd rfl n1
        · have n0 : ¬ v4 = 0 := by rintro rfl; exact h1 (by decide)
          have n1 : ¬ v4 = 1 := by rintro rfl; exact h1 (by decide)
          exact os_ys hr (br_f os_10 (os_yc hc (br_f os_10 (os_yc hd (br_f os_10 (br_f n0 (br_f n1 ⟨rfl, J⟩)))))))
      · exact hx _ (br_t rfl (os_ys hr (br_f os_10 (os_yc hc (br_f os_10 (hy _ _ _ (br_t rfl ⟨rfl, J⟩)))))))
    · exact hx _ (br_t rfl (os_ys hr (br_f os_10 (hy _ _ _ (br_t rfl ⟨rfl, J⟩)))))
  · exact hx _ (br_t rfl (hy _ _ _ (br_t rfl ⟨rfl, J⟩)))
/-! stretches of an array written over -/
def os_put (a : Nat → Int32) (T : Nat) (g : Nat → Int32) (i : Nat) : Nat → Int32 := fun j => if T ≤ j ∧ j < T + i then g (j - T) else a j
theorem os_put0 (a : Nat → Int32) (T : Nat) (g : Nat → Int32) : os_put a T g 0 = a := by
  funext j
  exact if_neg (by omega)
theorem os_putS (a : Nat → Int32) (T : Nat) (g : Nat → Int32) (i : Nat) : upd (os_put a T g i) (T + i) (g i) = os_put a T g (i + 1) := by
  funext j
  by_cases h : j = T + i
  · rw [h, pk_us]
    exact ((if_pos (by omega)).trans (by rw [Nat.add_sub_cancel_left])).symm
  · rw [pk_un h]
    by_cases h2 : T ≤ j ∧ j < T + i
    · exact (if_pos h2).trans (if_pos (by omega)).symm
    · exact (if_neg h2).trans (if_neg (by omega)).symm
theorem os_putO (a : Nat → Int32) {T j : Nat} (g : Nat → Int32) {i : Nat} (h : ¬ (T ≤ j ∧ j < T + i)) : os_put a T g i j = a j := if_neg h
theorem os_putI (a : Nat → Int32) {T j : Nat} (g : Nat → Int32) {i : Nat} (h : T ≤ j ∧ j < T + i) : os_put a T g i j = g (j - T) := if_pos h
theorem os_putB {a : Nat → Int32} (hB : os_B a) (T : Nat) {g : Nat → Int32} (i : Nat) (hg : ∀ e, e < i → g e = 0 ∨ g e = 1) : os_B (os_put a T g i) := by
  intro j
  by_cases h : T ≤ j ∧ j < T + i
  · rw [os_putI a g h]; exact hg _ (by omega)
  · rw [os_putO a g h]; exact hB j
theorem os_putC (a : Nat → Int32) (T : Nat) {g g' : Nat → Int32} (h : ∀ e, e < 512 → g e = g' e) : os_put a T g 512 = os_put a T g' 512 := by
  funext j
  by_cases c : T ≤ j ∧ j < T + 512
  · rw [os_putI a g c, os_putI a g' c]; exact h _ (by omega)
  · rw [os_putO a g c, os_putO a g' c]
theorem os_put00 (m : Nat → Int32) (g : Nat → Int32) {e : Nat} (h : e < 512) : os_put m 0 g 512 e = g e := os_putI m g (by omega)
/-! keep -/
theorem os_keep (a mm : Nat → Int32) (r : Nat) (hr : r < 4) (hm : ∀ e, e < 512 → mm e = 0 ∨ mm e = 1) (post : SY → Prop) (hp : post (os_put a (512 * r) mm 512, mm)) : ∀ t i : Nat, i + t = 512 → wY_keep_2 post (nI r) (t + 1) (nI i) (os_put a (512 * r) mm i) mm := by
  intro t
  induction t with
  | zero =>
    intro i hi
    have e : i = 512 := hi
    rw [e]
    exact br_t (os_ge rfl) hp
  | succ t ih =>
    intro i hi
    have h5 : i < 512 := by omega
    refine br_f (os_lt h5) ⟨vp_in_nI h5 (by decide), os_yv hr h5, nm_r ?_ (nm_r (nI_1 i) (ih (i + 1) (by omega)))⟩
    rw [os_yi hr h5, nI_clamp (by omega), os_n1 (hm i h5), os_putS]
theorem os_keepw (a m g : Nat → Int32) (r : Nat) (hr : r < 4) (hg : ∀ e, e < 512 → g e = 0 ∨ g e = 1) (post : SY → Prop) (hp : post (os_put a (512 * r) g 512, os_put m 0 g 512)) : wpY_keep post (a, os_put m 0 g 512) (nI r) := by
  have h := os_keep a (os_put m 0 g 512) r hr (fun e he => by rw [os_put00 m g he]; exact hg e he) post (by rw [os_putC a (512 * r) (g' := g) (fun e he => os_put00 m g he)]; exact hp) 512 0 rfl
  rw [os_put0] at h
  exact ⟨_, h⟩
end
section
/-! combine -/
def os_jn (op x y : Int32) : Int32 := if op = 0 then (if x = 0 then (if y = 0 then 0 else 1) else 1) else if op = 1 then (if x = 0 then 0 else (if y = 0 then 0 else 1)) else if op = 2 then (if x = 0 then 0 else (if y = 0 then 1 else 0)) else (if x = y then 0 else 1)
theorem os_jn01 (op x y : Int32) : os_jn op x y = 0 ∨ os_jn op x y = 1 := by
  unfold os_jn
  repeat' split
  all_goals first | exact Or.inl rfl | exact Or.inr rfl
theorem os_xj {post : Int32 → Prop} {op x y : Int32} (ho : ¬ op < 0) (h : post (os_jn op x y)) : wpX_joined post op x y := by
  have K0 : os_jn op x y = 0 → post 0 := fun e => by rw [← e]; exact h
  have K1 : os_jn op x y = 1 → post 1 := fun e => by rw [← e]; exact h
  refine br_f ho (br_c (fun h2 => ?_) (fun h2 => ?_))
  · have n0 : ¬ op = 0 := by rintro rfl; exact absurd h2 (by decide)
    have n1 : ¬ op = 1 := by rintro rfl; exact absurd h2 (by decide)
    have n2 : ¬ op = 2 := by rintro rfl; exact absurd h2 (by decide)
    exact br_c (fun e => K0 (by simp [os_jn, n0, n1, n2, e])) (fun e => K1 (by simp [os_jn, n0, n1, n2, e]))
  · refine br_c (fun n0 => ?_) (fun n0 => br_c (fun n1 => ?_) (fun n1 => br_c (fun n2 => ?_) (fun n2 => trivial)))
    · exact br_c (fun ex => br_c (fun ey => K0 (by simp [os_jn, n0, ex, ey])) (fun ey => K1 (by simp [os_jn, n0, ex, ey]))) (fun ex => K1 (by simp [os_jn, n0, ex]))
    · exact br_c (fun ex => K0 (by simp [os_jn, n1, ex])) (fun ex => br_c (fun ey => K0 (by simp [os_jn, n1, ex, ey])) (fun ey => K1 (by simp [os_jn, n1, ex, ey])))
    · exact br_c (fun ex => K0 (by simp [os_jn, n2, ex])) (fun ex => br_c (fun ey => K1 (by simp [os_jn, n2, ex, ey])) (fun ey => K0 (by simp [os_jn, n2, ex, ey])))
theorem os_xcmb (a : Nat → Int32) {r s t : Nat} (hr : r < 4) (hs : s < 4) (ht : t < 4) {op : Int32} (ho : ¬ op < 0) (post : Int32 → SX → Prop) (hp : post 1 (os_put a (512 * r) (fun e => os_jn op (a (512 * s + e)) (a (512 * t + e))) 512)) : ∀ d i : Nat, i + d = 512 → wX_combine_58 post op (nI (512 * r)) (nI (512 * s)) (nI (512 * t)) (d + 1) (nI i) (os_put a (512 * r) (fun e => os_jn op (a (512 * s + e)) (a (512 * t + e))) i) := by
  intro d
  induction d with
  | zero =>
    intro i hi
    have e : i = 512 := hi
    rw [e]
    exact br_t (os_ge rfl) hp
  | succ d ih =>
    intro i hi
    have h5 : i < 512 := by omega
    refine br_f (os_lt h5) ⟨os_xv hs h5, os_xv ht h5, ?_⟩
    rw [os_xi hs h5, os_xi ht h5, os_putO a _ (by omega), os_putO a _ (by omega)]
    refine os_xj ho ⟨os_xv hr h5, nm_r ?_ (nm_r (nI_1 i) (ih (i + 1) (by omega)))⟩
    rw [os_xi hr h5, os_n1 (os_jn01 _ _ _)]
    exact os_putS a (512 * r) (fun e => os_jn op (a (512 * s + e)) (a (512 * t + e))) i
theorem os_ycs (a m : Nat → Int32) {s t : Nat} (hs : s < 4) (ht : t < 4) {x1 op : Int32} (post : Int32 → SY → Prop) (n i : Nat) (h5 : i < 512) (h : wY_combine_39 post x1 op (nI s) (nI t) n (nI (i + 1)) a (upd m i (os_jn op (a (512 * s + i)) (a (512 * t + i))))) : wY_combine_39 post x1 op (nI s) (nI t) (n + 1) (nI i) a m := by
  refine br_f (os_lt h5) ⟨os_yv hs h5, nm_r (congrArg a (os_yi hs h5)) ⟨os_yv ht h5, nm_r (congrArg a (os_yi ht h5)) ?_⟩⟩
  have K0 : os_jn op (a (512 * s + i)) (a (512 * t + i)) = 0 → vp_in (nI i) 512 ∧ ∀ m' : Nat → Int32, m' = upd m (nI i).toNatClampNeg (vp_nar .boolean 0) → (∀ x : Int32, x = nI i + 1 → wY_combine_39 post x1 op (nI s) (nI t) n x a m') := by
    intro e
    rw [e] at h
    exact ⟨vp_in_nI h5 (by decide), nm_r (by rw [nI_clamp (by omega), os_n1 (Or.inl rfl)]) (nm_r (nI_1 i) h)⟩
  have K1 : os_jn op (a (512 * s + i)) (a (512 * t + i)) = 1 → vp_in (nI i) 512 ∧ ∀ m' : Nat → Int32, m' = upd m (nI i).toNatClampNeg (vp_nar .boolean 1) → (∀ x : Int32, x = nI i + 1 → wY_combine_39 post x1 op (nI s) (nI t) n x a m') := by
    intro e
    rw [e] at h
    exact ⟨vp_in_nI h5 (by decide), nm_r (by rw [nI_clamp (by omega), os_n1 (Or.inr rfl)]) (nm_r (nI_1 i) h)⟩
  refine br_c (fun n0 => ?_) (fun n0 => br_c (fun n1 => ?_) (fun n1 => br_c (fun n2 => ?_) (fun n2 => ?_)))
  · exact br_c (fun ex => br_c (fun ey => K0 (by simp [os_jn, n0, ex, ey])) (fun ey => K1 (by simp [os_jn, n0, ex, ey]))) (fun ex => K1 (by simp [os_jn, n0, ex]))
  · exact br_c (fun ex => K0 (by simp [os_jn, n1, ex])) (fun ex => br_c (fun ey => K0 (by simp [os_jn, n1, ex, ey])) (fun ey => K1 (by simp [os_jn, n1, ex, ey])))
  · exact br_c (fun ex => K0 (by simp [os_jn, n2, ex])) (fun ex => br_c (fun ey => K1 (by simp [os_jn, n2, ex, ey])) (fun ey => K0 (by simp [os_jn, n2, ex, ey])))
  · exact br_c (fun e => K0 (by simp [os_jn, n0, n1, n2, e])) (fun e => K1 (by simp [os_jn, n0, n1, n2, e]))
theorem os_ycmb (a m : Nat → Int32) {r s t : Nat} (hr : r < 4) (hs : s < 4) (ht : t < 4) {op : Int32} (post : Int32 → SY → Prop) (hp : post 1 (os_put a (512 * r) (fun e => os_jn op (a (512 * s + e)) (a (512 * t + e))) 512, os_put m 0 (fun e => os_jn op (a (512 * s + e)) (a (512 * t + e))) 512)) : ∀ d i : Nat, i + d = 512 → wY_combine_39 post (nI r) op (nI s) (nI t) (d + 1) (nI i) a (os_put m 0 (fun e => os_jn op (a (512 * s + e)) (a (512 * t + e))) i) := by
  intro d
  induction d with
  | zero =>
    intro i hi
    have e : i = 512 := hi
    rw [e]
    exact br_t (os_ge rfl) (os_keepw a m _ r hr (fun _ _ => os_jn01 _ _ _) _ hp)
  | succ d ih =>
    intro i hi
    have h5 : i < 512 := by omega
    refine os_ycs a _ hs ht post (d + 1) i h5 ?_
    have e := os_putS m 0 (fun e => os_jn op (a (512 * s + e)) (a (512 * t + e))) i
    rw [Nat.zero_add] at e
    rw [e]
    exact ih (i + 1) (by omega)
theorem i_vc_combine {k : Nat} {u : SX} {v : SY} (I : i_Rel k u v) (hk : k + 5 ≤ 2560) (v1 : Int32) (v2 : Int32) (v3 : Int32) (v4 : Int32) : wpX_combine (fun r u' => wpY_combine (fun r' v' => r' = r ∧ i_Rel (k + 5) u' v') v v1 v2 v3 v4) u v1 v2 v3 v4 := by
  have J : i_Rel (k + 5) u v := I
  obtain ⟨m, rfl, hB⟩ := os_I I
  unfold wpX_combine wpY_combine
  dsimp only
  rcases os_sol v1 with ⟨r, hr, rfl⟩ | ⟨hx, hy⟩
  · refine os_xs hr (br_f os_10 ?_)
    rcases os_sol v3 with ⟨s, hs, rfl⟩ | ⟨hx, hy⟩
    · refine os_xs hs (br_f os_10 ?_)
      rcases os_sol v4 with ⟨t, ht, rfl⟩ | ⟨hx, hy⟩
      · refine os_xs ht (br_f os_10 ?_)
        refine br_c (fun h => ?_) (fun h => br_c (fun h1 => ?_) (fun h1 => ?_))
        · exact os_ys hr (br_f os_10 (os_ys hs (br_f os_10 (os_ys ht (br_f os_10 (br_t h ⟨rfl, J⟩))))))
        · have h3 : v2 ≤ 3 := by
            rw [Int32.lt_iff_toInt_lt, show (4 : Int32).toInt = 4 from by decide] at h1
            rw [Int32.le_iff_toInt_le, show (3 : Int32).toInt = 3 from by decide]
            omega
          have hX := os_xcmb u hr hs ht h (fun r_1 u' => wpY_combine (fun r' v' => r' = r_1 ∧ i_Rel (k + 5) u' v') (u, m) (nI r) v2 (nI s) (nI t))
          unfold wpY_combine at hX
          dsimp only at hX
          refine nm_r (os_bx r) (nm_r (os_bx s) (nm_r (os_bx t) ⟨513, ?_⟩))
          have h0 := hX (os_ys hr (br_f os_10 (os_ys hs (br_f os_10 (os_ys ht (br_f os_10 (br_f h (br_t h3 ⟨513, ?_⟩)))))))) 512 0 rfl
          · rw [os_put0] at h0
            exact h0
          · have hY := os_ycmb u m hr hs ht (op := v2) (fun r' v' => r' = 1 ∧ i_Rel (k + 5) (os_put u (512 * r) (fun e => os_jn v2 (u (512 * s + e)) (u (512 * t + e))) 512) v') ⟨rfl, And.intro rfl (os_putB hB _ _ (fun _ _ => os_jn01 _ _ _))⟩ 512 0 rfl
            rw [os_put0] at hY
            exact hY
        · have h3 : ¬ v2 ≤ 3 := by
            rw [Int32.lt_iff_toInt_lt, show (4 : Int32).toInt = 4 from by decide] at h1
            rw [Int32.le_iff_toInt_le, show (3 : Int32).toInt = 3 from by decide]
            omega
          exact os_ys hr (br_f os_10 (os_ys hs (br_f os_10 (os_ys ht (br_f os_10 (br_f h (br_f h3 ⟨rfl, J⟩)))))))
      · exact hx _ (br_t rfl (os_ys hr (br_f os_10 (os_ys hs (br_f os_10 (hy _ _ _ (br_t rfl ⟨rfl, J⟩)))))))
    · exact hx _ (br_t rfl (os_ys hr (br_f os_10 (hy _ _ _ (br_t rfl ⟨rfl, J⟩)))))
  · exact hx _ (br_t rfl (hy _ _ _ (br_t rfl ⟨rfl, J⟩)))
/-! turn -/
def os_nt (x : Int32) : Int32 := if x = 0 then 1 else 0
theorem os_nt01 (x : Int32) : os_nt x = 0 ∨ os_nt x = 1 := by
  unfold os_nt
  split
  · exact Or.inr rfl
  · exact Or.inl rfl
theorem os_xtrn (a : Nat → Int32) {r s : Nat} (hr : r < 4) (hs : s < 4) (post : Int32 → SX → Prop) (hp : post 1 (os_put a (512 * r) (fun e => os_nt (a (512 * s + e))) 512)) : ∀ d i : Nat, i + d = 512 → wX_turn_32 post (nI (512 * r)) (nI (512 * s)) (d + 1) (nI i) (os_put a (512 * r) (fun e => os_nt (a (512 * s + e))) i) := by
  intro d
  induction d with
  | zero =>
    intro i hi
    have e : i = 512 := hi
    rw [e]
    exact br_t (os_ge rfl) hp
  | succ d ih =>
    intro i hi
    have h5 : i < 512 := by omega
    have e := os_putS a (512 * r) (fun e => os_nt (a (512 * s + e))) i
    refine br_f (os_lt h5) ⟨os_xv hs h5, ?_⟩
    rw [os_xi hs h5, os_putO a _ (show ¬ (512 * r ≤ 512 * s + i ∧ 512 * s + i < 512 * r + i) by omega)]
    refine br_c (fun z => ⟨os_xv hr h5, nm_r ?_ (nm_r (nI_1 i) (ih (i + 1) (by omega)))⟩) (fun z => ⟨os_xv hr h5, nm_r ?_ (nm_r (nI_1 i) (ih (i + 1) (by omega)))⟩)
    · rw [os_xi hr h5, os_n1 (Or.inr rfl), ← e]
      rw [os_nt, if_pos z]
    · rw [os_xi hr h5, os_n1 (Or.inl rfl), ← e]
      rw [os_nt, if_neg z]
theorem os_ytrn (a m : Nat → Int32) {r s : Nat} (hr : r < 4) (hs : s < 4) (post : Int32 → SY → Prop) (hp : post 1 (os_put a (512 * r) (fun e => os_nt (a (512 * s + e))) 512, os_put m 0 (fun e => os_nt (a (512 * s + e))) 512)) : ∀ d i : Nat, i + d = 512 → wY_turn_20 post (nI r) (nI s) (d + 1) (nI i) a (os_put m 0 (fun e => os_nt (a (512 * s + e))) i) := by
  intro d
  induction d with
  | zero =>
    intro i hi
    have e : i = 512 := hi
    rw [e]
    exact br_t (os_ge rfl) (os_keepw a m _ r hr (fun _ _ => os_nt01 _) _ hp)
  | succ d ih =>
    intro i hi
    have h5 : i < 512 := by omega
    have e := os_putS m 0 (fun e => os_nt (a (512 * s + e))) i
    rw [Nat.zero_add] at e
    refine br_f (os_lt h5) ⟨os_yv hs h5, ?_⟩
    rw [os_yi hs h5]
    refine br_c (fun z => ⟨vp_in_nI h5 (by decide), nm_r ?_ (nm_r (nI_1 i) (ih (i + 1) (by omega)))⟩) (fun z => ⟨vp_in_nI h5 (by decide), nm_r ?_ (nm_r (nI_1 i) (ih (i + 1) (by omega)))⟩)
    · rw [nI_clamp (by omega), os_n1 (Or.inr rfl), ← e]
      rw [os_nt, if_pos z]
    · rw [nI_clamp (by omega), os_n1 (Or.inl rfl), ← e]
      rw [os_nt, if_neg z]
theorem i_vc_turn {k : Nat} {u : SX} {v : SY} (I : i_Rel k u v) (hk : k + 5 ≤ 2560) (v1 : Int32) (v2 : Int32) : wpX_turn (fun r u' => wpY_turn (fun r' v' => r' = r ∧ i_Rel (k + 5) u' v') v v1 v2) u v1 v2 := by
  have J : i_Rel (k + 5) u v := I
  obtain ⟨m, rfl, hB⟩ := os_I I
  rcases os_sol v1 with ⟨r, hr, rfl⟩ | ⟨hx, hy⟩
  · rcases os_sol v2 with ⟨s, hs, rfl⟩ | ⟨hx, hy⟩
    · have hX := os_xtrn u hr hs (fun r_1 u' => wpY_turn (fun r' v' => r' = r_1 ∧ i_Rel (k + 5) u' v') (u, m) (nI r) (nI s))
      have hY := os_ytrn u m hr hs (fun r' v' => r' = 1 ∧ i_Rel (k + 5) (os_put u (512 * r) (fun e => os_nt (u (512 * s + e))) 512) v') ⟨rfl, And.intro rfl (os_putB hB _ _ (fun _ _ => os_nt01 _))⟩ 512 0 rfl
      rw [os_put0] at hY
      have h0 := hX (by unfold wpY_turn; dsimp only; exact os_ys hr (br_f os_10 (os_ys hs (br_f os_10 ⟨_, hY⟩)))) 512 0 rfl
      rw [os_put0] at h0
      unfold wpX_turn
      exact os_xs hr (br_f os_10 (os_xs hs (br_f os_10 (nm_r (os_bx r) (nm_r (os_bx s) ⟨_, h0⟩)))))
    · unfold wpX_turn wpY_turn
      dsimp only
      exact os_xs hr (br_f os_10 (hx _ (br_t rfl (os_ys hr (br_f os_10 (hy _ _ _ (br_t rfl ⟨rfl, J⟩)))))))
  · unfold wpX_turn wpY_turn
    dsimp only
    exact hx _ (br_t rfl (hy _ _ _ (br_t rfl ⟨rfl, J⟩)))
end
section
/-! mirror -/
def os_fl (ax : Nat) : Nat := 7 * 8 ^ ax
theorem os_flI : ∀ ax, ax < 3 → (7 : Int32) <<< ((3 * nI ax) &&& 31) = nI (os_fl ax) := by decide +kernel
theorem os_flT : ∀ ax, ax < 3 → ∀ e, e < 512 → e ^^^ os_fl ax < 512 ∧ (e ^^^ os_fl ax) ^^^ os_fl ax = e ∧ e ^^^ os_fl ax ≠ e := by decide +kernel
def os_mir (a : Nat → Int32) (T A f i : Nat) : Nat → Int32 := fun j => if T ≤ j ∧ j < T + 512 ∧ (j - T < i ∨ (j - T) ^^^ f < i) then a (A + ((j - T) ^^^ f)) else a j
theorem os_mirI {a : Nat → Int32} {T A f i j : Nat} (h : T ≤ j ∧ j < T + 512 ∧ (j - T < i ∨ (j - T) ^^^ f < i)) : os_mir a T A f i j = a (A + ((j - T) ^^^ f)) := if_pos h
theorem os_mirO {a : Nat → Int32} {T A f i j : Nat} (h : ¬ (T ≤ j ∧ j < T + 512 ∧ (j - T < i ∨ (j - T) ^^^ f < i))) : os_mir a T A f i j = a j := if_neg h
theorem os_mir0 (a : Nat → Int32) (T A f : Nat) : os_mir a T A f 0 = a := by
  funext j
  exact os_mirO (by omega)
theorem os_mirP (a : Nat → Int32) (T A f : Nat) : os_mir a T A f 512 = os_put a T (fun e => a (A + (e ^^^ f))) 512 := by
  funext j
  by_cases c : T ≤ j ∧ j < T + 512
  · rw [os_putI a _ c, os_mirI ⟨c.1, c.2, Or.inl (by omega)⟩]
  · rw [os_putO a _ c, os_mirO (fun g => c ⟨g.1, g.2.1⟩)]
theorem os_mirC {a : Nat → Int32} {T A f i i' j : Nat} (h : T ≤ j → j < T + 512 → ((j - T < i ∨ (j - T) ^^^ f < i) ↔ (j - T < i' ∨ (j - T) ^^^ f < i'))) : os_mir a T A f i j = os_mir a T A f i' j := by
  by_cases c : T ≤ j ∧ j < T + 512 ∧ (j - T < i ∨ (j - T) ^^^ f < i)
  · rw [os_mirI c, os_mirI ⟨c.1, c.2.1, (h c.1 c.2.1).mp c.2.2⟩]
  · rw [os_mirO c, os_mirO (fun g => c ⟨g.1, g.2.1, (h g.1 g.2.1).mpr g.2.2⟩)]
theorem os_mirE (a : Nat → Int32) (T A f i : Nat) (hf : ∀ e, e < 512 → e ^^^ f < 512 ∧ (e ^^^ f) ^^^ f = e ∧ e ^^^ f ≠ e) (hi : i < 512) (h : i ^^^ f ≤ i) : os_mir a T A f i = os_mir a T A f (i + 1) := by
  funext j
  refine os_mirC (fun h1 h2 => ?_)
  have hj : j - T < 512 := by omega
  generalize j - T = e at hj
  obtain ⟨f1, f2, f3⟩ := hf e hj
  obtain ⟨g1, g2, g3⟩ := hf i hi
  constructor
  · intro c; omega
  · intro c
    by_cases e1 : e = i
    · subst e1; omega
    · by_cases e2 : e ^^^ f = i
      · rw [e2] at f2; omega
      · omega
theorem os_mirS (a : Nat → Int32) (T A f i : Nat) (hf : ∀ e, e < 512 → e ^^^ f < 512 ∧ (e ^^^ f) ^^^ f = e ∧ e ^^^ f ≠ e) (hi : i < 512) (h : i < i ^^^ f) : upd (upd (os_mir a T A f i) (T + i) (a (A + (i ^^^ f)))) (T + (i ^^^ f)) (a (A + i)) = os_mir a T A f (i + 1) := by
  obtain ⟨g1, g2, g3⟩ := hf i hi
  funext j
  by_cases c1 : j = T + (i ^^^ f)
  · have e1 : j - T = i ^^^ f := by omega
    rw [c1, pk_us, ← c1, os_mirI ⟨by omega, by omega, by rw [e1, g2]; omega⟩, e1, g2]
  · rw [pk_un c1]
    by_cases c2 : j = T + i
    · have e1 : j - T = i := by omega
      rw [c2, pk_us, ← c2, os_mirI ⟨by omega, by omega, by omega⟩, e1]
    · rw [pk_un c2]
      refine os_mirC (fun h1 h2 => ?_)
      have hj : j - T < 512 := by omega
      have n1 : ¬ j - T = i ^^^ f := by omega
      have n2 : ¬ j - T = i := by omega
      generalize j - T = e at hj n1 n2
      obtain ⟨f1, f2, f3⟩ := hf e hj
      have n3 : ¬ e ^^^ f = i := fun g => n1 (by rw [← g, f2])
      omega
theorem os_xmir (a : Nat → Int32) {r s f : Nat} (hr : r < 4) (hs : s < 4) (hB : os_B a) (hf : ∀ e, e < 512 → e ^^^ f < 512 ∧ (e ^^^ f) ^^^ f = e ∧ e ^^^ f ≠ e) (post : Int32 → SX → Prop) (hp : post 1 (os_mir a (512 * r) (512 * s) f 512)) : ∀ d i : Nat, i + d = 512 → wX_mirror_50 post (nI (512 * r)) (nI (512 * s)) (nI f) (d + 1) (nI i) (os_mir a (512 * r) (512 * s) f i) := by
  intro d
  induction d with
  | zero =>
    intro i hi
    have e : i = 512 := hi
    rw [e]
    exact br_t (os_ge rfl) hp
  | succ d ih =>
    intro i hi
    have h5 : i < 512 := by omega
    obtain ⟨g1, g2, g3⟩ := hf i h5
    by_cases h : i ^^^ f ≤ i
    · refine br_f (os_lt h5) (nm_r (nx_xor i f) (br_t (nI_le h (by omega)) (nm_r (nI_1 i) ?_)))
      rw [os_mirE a _ _ f i hf h5 h]
      exact ih (i + 1) (by omega)
    · have r1 : os_mir a (512 * r) (512 * s) f i (512 * s + i) = a (512 * s + i) := by
        refine os_mirO (fun c => ?_)
        have e1 : 512 * s + i - 512 * r = i := by omega
        rw [e1] at c
        omega
      have r2 : os_mir a (512 * r) (512 * s) f i (512 * s + (i ^^^ f)) = a (512 * s + (i ^^^ f)) := by
        refine os_mirO (fun c => ?_)
        have e1 : 512 * s + (i ^^^ f) - 512 * r = i ^^^ f := by omega
        rw [e1, g2] at c
        omega
      refine br_f (os_lt h5) (nm_r (nx_xor i f) (br_f (nI_ge (by omega) (by omega)) ⟨os_xv hs h5, nm_r (by rw [os_xi hs h5, r1]) ⟨os_xv hs g1, nm_r (by rw [os_xi hs g1, r2]) ⟨os_xv hr h5, nm_r (by rw [os_xi hr h5, os_n1 (hB _)]) ⟨os_xv hr g1, nm_r (by rw [os_xi hr g1, os_n1 (hB _), os_mirS a _ _ f i hf h5 (by omega)]) (nm_r (nI_1 i) (ih (i + 1) (by omega)))⟩⟩⟩⟩))
theorem os_ymir (a m : Nat → Int32) {r s ax : Nat} (hr : r < 4) (hs : s < 4) (hB : os_B a) (hx : ax < 3) (post : Int32 → SY → Prop) (hp : post 1 (os_put a (512 * r) (fun e => a (512 * s + (e ^^^ os_fl ax))) 512, os_put m 0 (fun e => a (512 * s + (e ^^^ os_fl ax))) 512)) : ∀ d i : Nat, i + d = 512 → wY_mirror_30 post (nI r) (nI s) (nI ax) (d + 1) (nI i) a (os_put m 0 (fun e => a (512 * s + (e ^^^ os_fl ax))) i) := by
  intro d
  induction d with
  | zero =>
    intro i hi
    have e : i = 512 := hi
    rw [e]
    exact br_t (os_ge rfl) (os_keepw a m _ r hr (fun _ _ => hB _) _ hp)
  | succ d ih =>
    intro i hi
    have h5 : i < 512 := by omega
    obtain ⟨g1, g2, g3⟩ := os_flT ax hx i h5
    have e := os_putS m 0 (fun e => a (512 * s + (e ^^^ os_fl ax))) i
    rw [Nat.zero_add] at e
    refine br_f (os_lt h5) ?_
    rw [os_flI ax hx, nx_xor]
    refine ⟨os_yv hs g1, vp_in_nI h5 (by decide), nm_r ?_ (nm_r (nI_1 i) (ih (i + 1) (by omega)))⟩
    rw [os_yi hs g1, nI_clamp (by omega), os_n1 (hB _)]
    exact e
theorem i_vc_mirror {k : Nat} {u : SX} {v : SY} (I : i_Rel k u v) (hk : k + 5 ≤ 2560) (v1 : Int32) (v2 : Int32) (v3 : Int32) : wpX_mirror (fun r u' => wpY_mirror (fun r' v' => r' = r ∧ i_Rel (k + 5) u' v') v v1 v2 v3) u v1 v2 v3 := by
  have J : i_Rel (k + 5) u v := I
  obtain ⟨m, rfl, hB⟩ := os_I I
  rcases os_sol v1 with ⟨r, hr, rfl⟩ | ⟨hx, hy⟩
  · rcases os_sol v2 with ⟨s, hs, rfl⟩ | ⟨hx, hy⟩
    · by_cases h0 : v3 < 0
      · unfold wpX_mirror wpY_mirror
        dsimp only
        exact os_xs hr (br_f os_10 (os_xs hs (br_f os_10 (br_t h0 (os_ys hr (br_f os_10 (os_ys hs (br_f os_10 (br_t h0 ⟨rfl, J⟩)))))))))
      · obtain ⟨ax, hax, rfl⟩ := nI_of h0
        by_cases h3 : ax < 3
        · have hX := os_xmir u hr hs hB (os_flT ax h3) (fun r_1 u' => wpY_mirror (fun r' v' => r' = r_1 ∧ i_Rel (k + 5) u' v') (u, m) (nI r) (nI s) (nI ax))
          have hY := os_ymir u m hr hs hB h3 (fun r' v' => r' = 1 ∧ i_Rel (k + 5) (os_mir u (512 * r) (512 * s) (os_fl ax) 512) v') ⟨rfl, And.intro (os_mirP _ _ _ _) (by rw [os_mirP]; exact os_putB hB _ _ (fun _ _ => hB _))⟩ 512 0 rfl
          rw [os_put0] at hY
          have g0 := hX (by unfold wpY_mirror; dsimp only; exact os_ys hr (br_f os_10 (os_ys hs (br_f os_10 (br_f h0 (br_t (nI_le (b := 2) (by omega) (by decide)) ⟨_, hY⟩)))))) 512 0 rfl
          rw [os_mir0] at g0
          unfold wpX_mirror
          exact os_xs hr (br_f os_10 (os_xs hs (br_f os_10 (br_f h0 (br_t (nI_lt (b := 3) h3 (by decide)) (nm_r (os_bx r) (nm_r (os_bx s) (nm_r (os_flI ax h3) ⟨_, g0⟩))))))))
        · unfold wpX_mirror wpY_mirror
          dsimp only
          exact os_xs hr (br_f os_10 (os_xs hs (br_f os_10 (br_f h0 (br_f (nI_nlt (b := 3) (by omega) hax) (os_ys hr (br_f os_10 (os_ys hs (br_f os_10 (br_f h0 (br_f (nI_ge (a := 2) (by omega) hax) ⟨rfl, J⟩)))))))))))
    · unfold wpX_mirror wpY_mirror
      dsimp only
      exact os_xs hr (br_f os_10 (hx _ (br_t rfl (os_ys hr (br_f os_10 (hy _ _ _ (br_t rfl ⟨rfl, J⟩)))))))
  · unfold wpX_mirror wpY_mirror
    dsimp only
    exact hx _ (br_t rfl (hy _ _ _ (br_t rfl ⟨rfl, J⟩)))
end
section
/-! bits of a cell's number -/
def os_S (k : Nat) : Nat := 73 * (2 ^ k - 1)
theorem os_pb : ∀ k, k < 4 → 73 * (((1 : Int32) <<< (nI k &&& 31)) - 1) = nI (os_S k) := by decide +kernel
theorem os_lw : ∀ k, k < 4 → ((1 : Int32) <<< (nI k &&& 31)) - 1 = nI (2 ^ k - 1) := by decide +kernel
theorem os_S5 : ∀ k, k < 4 → os_S k < 512 := by decide +kernel
theorem os_xpb {post : Int32 → Prop} {k : Nat} (hk : k < 4) (h : post (nI (os_S k))) : wpX_placeBits post (nI k) := by
  unfold wpX_placeBits
  rw [os_pb k hk]
  exact h
def os_sb (k p : Nat) : Prop := (nI p &&& (nI (os_S k) ^^^ (-1))) = 0
def os_cr (K c : Nat) : Nat := (c % 8 / K * K) + 8 * (c / 8 % 8 / K * K) + 64 * (c / 64 % 8 / K * K)
theorem os_sbT : ∀ k, k < 4 → ∀ p, p < 512 → ((nI p &&& (nI (os_S k) ^^^ (-1))) = 0 ↔ (p % 8 < 2 ^ k ∧ p / 8 % 8 < 2 ^ k ∧ p / 64 % 8 < 2 ^ k)) := by decide +kernel
theorem os_crT : ∀ k, k < 4 → ∀ c, c < 512 → nI c &&& (nI (os_S k) ^^^ (-1)) = nI (os_cr (2 ^ k) c) := by decide +kernel
theorem os_cnT : ∀ k, k < 4 → ∀ c, c < 512 → ((nI c &&& nI (os_S k)) = 0 ↔ ((nI (c % 8) &&& nI (2 ^ k - 1)) = 0 ∧ (nI (c / 8 % 8) &&& nI (2 ^ k - 1)) = 0 ∧ (nI (c / 64 % 8) &&& nI (2 ^ k - 1)) = 0)) := by decide +kernel
theorem os_K : ∀ k, k < 4 → (2 ^ k = 1 ∨ 2 ^ k = 2 ∨ 2 ^ k = 4 ∨ 2 ^ k = 8) := by decide
theorem os_p0 {c : Nat} (hc : c < 512) : (nI c >>> ((3 * (0 : Int32)) &&& 31)) &&& 7 = nI (c % 8) := by
  rw [pk_shrN (by omega) _ 0 (by decide), Nat.pow_zero, Nat.div_one, pk_andN (by omega) 3 (by decide)]
theorem os_p1 {c : Nat} (hc : c < 512) : (nI c >>> ((3 * (1 : Int32)) &&& 31)) &&& 7 = nI (c / 8 % 8) := by
  rw [pk_shrN (by omega) _ 3 (by decide), pk_andN (by omega) 3 (by decide)]
theorem os_p2 {c : Nat} (hc : c < 512) : (nI c >>> ((3 * (2 : Int32)) &&& 31)) &&& 7 = nI (c / 64 % 8) := by
  rw [pk_shrN (by omega) _ 6 (by decide), pk_andN (by omega) 3 (by decide)]
theorem os_ycn {post : Int32 → Prop} {a m : Nat → Int32} {c k : Nat} (hc : c < 512) (hk : k < 4) (h1 : (nI c &&& nI (os_S k)) = 0 → post 1) (h0 : ¬ (nI c &&& nI (os_S k)) = 0 → post 0) : wpY_corner post (a, m) (nI c) (nI k) := by
  unfold wpY_corner wpY_part
  dsimp only
  rw [os_p0 hc, os_p1 hc, os_p2 hc]
  rw [os_cnT k hk c hc] at h1 h0
  exact nm_r (os_lw k hk) (br_c (fun q0 => br_c (fun q1 => br_c (fun q2 => h1 ⟨q0, q1, q2⟩) (fun q2 => h0 (fun g => q2 g.2.2))) (fun q1 => h0 (fun g => q1 g.2.1))) (fun q0 => h0 (fun g => q0 g.1)))
def os_tg (K c e : Nat) : Prop := c % 8 / K = e % 8 / K ∧ c / 8 % 8 / K = e / 8 % 8 / K ∧ c / 64 % 8 / K = e / 64 % 8 / K
theorem os_ytg {post : Int32 → Prop} {a m : Nat → Int32} {c e k : Nat} (hc : c < 512) (he : e < 512) (hk : k < 4) (h1 : os_tg (2 ^ k) c e → post 1) (h0 : ¬ os_tg (2 ^ k) c e → post 0) : wpY_together post (a, m) (nI c) (nI e) (nI k) := by
  unfold wpY_together wpY_part
  dsimp only
  have sh : ∀ x, x < 8 → nI x >>> (nI k &&& 31) = nI (x / 2 ^ k) := fun x hx => pk_shrN (by omega) _ k (s_l k (by omega))
  have ne : ∀ x y, x < 8 → y < 8 → (nI (x / 2 ^ k) = nI (y / 2 ^ k) ↔ x / 2 ^ k = y / 2 ^ k) := by
    intro x y hx hy
    have h2 := Nat.div_le_self x (2 ^ k)
    have h3 := Nat.div_le_self y (2 ^ k)
    exact nI_eq (by omega) (by omega)
  rw [os_p0 hc, os_p1 hc, os_p2 hc, os_p0 he, os_p1 he, os_p2 he]
  rw [sh (c % 8) (by omega), sh (c / 8 % 8) (by omega), sh (c / 64 % 8) (by omega), sh (e % 8) (by omega), sh (e / 8 % 8) (by omega), sh (e / 64 % 8) (by omega)]
  rw [ne (c % 8) (e % 8) (by omega) (by omega), ne (c / 8 % 8) (e / 8 % 8) (by omega) (by omega), ne (c / 64 % 8) (e / 64 % 8) (by omega) (by omega)]
  exact br_c (fun q0 => br_c (fun q1 => br_c (fun q2 => h1 ⟨q0, q1, q2⟩) (fun q2 => h0 (fun g => q2 g.2.2))) (fun q1 => h0 (fun g => q1 g.2.1))) (fun q0 => h0 (fun g => q0 g.1))
/-! the reference's even -/
theorem os_yev0 {post : Int32 → Prop} {x1 x2 x3 : Int32} {a m : Nat → Int32} (hp : post 0) : ∀ d i : Nat, i + d = 512 → wY_even_6 post x1 x2 x3 a m (d + 1) 0 (nI i) := by
  intro d
  induction d with
  | zero => intro i hi; exact br_t (os_ge hi) ⟨rfl, hp⟩
  | succ d ih =>
    intro i hi
    exact br_f (os_lt (by omega)) (br_t rfl (nm_r (nI_1 i) (ih (i + 1) (by omega))))
theorem os_yev (a m : Nat → Int32) {r c k : Nat} (hr : r < 4) (hc : c < 512) (hk : k < 4) (post : Int32 → Prop) : ∀ d i : Nat, i + d = 512 → (os_Al (fun e => os_tg (2 ^ k) c e → a (512 * r + e) = a (512 * r + c)) i 512 → post 1) → (¬ os_Al (fun e => os_tg (2 ^ k) c e → a (512 * r + e) = a (512 * r + c)) i 512 → post 0) → wY_even_6 post (nI r) (nI c) (nI k) a m (d + 1) 1 (nI i) := by
  intro d
  induction d with
  | zero => intro i hi h1 h0; exact br_t (os_ge hi) ⟨rfl, h1 (os_al_0 (by omega))⟩
  | succ d ih =>
    intro i hi h1 h0
    have h5 : i < 512 := by omega
    refine br_f (os_lt h5) (br_f os_10 (os_ytg hc h5 hk (fun g => br_f os_10 ⟨os_yv hr h5, os_yv hr hc, ?_⟩) (fun g => br_t rfl (nm_r (nI_1 i) (ih (i + 1) (by omega) (fun w => h1 (os_al_s (fun y => absurd y g) w)) (fun w => h0 (os_al_n w)))))))
    rw [os_yi hr h5, os_yi hr hc]
    exact br_c (fun z => nm_r (nI_1 i) (ih (i + 1) (by omega) (fun w => h1 (os_al_s (fun _ => z) w)) (fun w => h0 (os_al_n w)))) (fun z => nm_r (nI_1 i) (os_yev0 (h0 (os_al_f h5 (fun w => z (w g)))) d (i + 1) (by omega)))
/-! the class's isEven -/
theorem os_xev (a : Nat → Int32) {r q k : Nat} (hr : r < 4) (hk : k < 4) (hq : q + os_S k ≤ 511) (w : Int32) (post : Int32 → Prop) : ∀ d i : Nat, i + d = os_S k + 1 → (os_Al (fun p => os_sb k p → a (512 * r + q + p) = w) i (os_S k + 1) → post 1) → (¬ os_Al (fun p => os_sb k p → a (512 * r + q + p) = w) i (os_S k + 1) → post 0) → wX_isEven_13 post (nI (512 * r)) (nI q) (nI (os_S k)) w a (d + 1) (nI i) := by
  intro d
  induction d with
  | zero => intro i hi h1 h0; exact br_t (nI_lt (by omega) (by omega)) (h1 (os_al_0 (by omega)))
  | succ d ih =>
    intro i hi h1 h0
    have h5 : i < os_S k + 1 := by omega
    refine br_f (nI_nlt (by omega) (by omega)) (br_c (fun g => ?_) (fun g => nm_r (nI_1 i) (ih (i + 1) (by omega) (fun y => h1 (os_al_s (fun x => absurd x g) y)) (fun y => h0 (os_al_n y)))))
    rw [nI_add, nI_add]
    refine ⟨vp_in_nI (by omega) (by decide), ?_⟩
    rw [nI_clamp (by omega)]
    exact br_c (fun z => nm_r (nI_1 i) (ih (i + 1) (by omega) (fun y => h1 (os_al_s (fun _ => z) y)) (fun y => h0 (os_al_n y)))) (fun z => h0 (os_al_f h5 (fun y => z (y g))))
/-! the two sets of cells are one -/
theorem os_F1 {K c p : Nat} (hK : K = 1 ∨ K = 2 ∨ K = 4 ∨ K = 8) (hc : c < 512) (hp : p < 512) (d0 : p % 8 < K) (d1 : p / 8 % 8 < K) (d2 : p / 64 % 8 < K) : os_cr K c + p < 512 ∧ os_tg K c (os_cr K c + p) := by
  unfold os_tg os_cr
  rcases hK with rfl | rfl | rfl | rfl <;> omega
theorem os_dg {x y z : Nat} (hx : x < 8) (hy : y < 8) (hz : z < 8) : (x + 8 * y + 64 * z) % 8 = x ∧ (x + 8 * y + 64 * z) / 8 % 8 = y ∧ (x + 8 * y + 64 * z) / 64 % 8 = z := by omega
theorem os_mk {K x : Nat} (hK : K = 1 ∨ K = 2 ∨ K = 4 ∨ K = 8) : x % K < K ∧ x % K ≤ x ∧ x = x / K * K + x % K := by
  rcases hK with rfl | rfl | rfl | rfl <;> omega
theorem os_F2 {K c e : Nat} (hK : K = 1 ∨ K = 2 ∨ K = 4 ∨ K = 8) (hc : c < 512) (he : e < 512) (h : os_tg K c e) : ∃ p, p < 73 * (K - 1) + 1 ∧ p % 8 < K ∧ p / 8 % 8 < K ∧ p / 64 % 8 < K ∧ e = os_cr K c + p := by
  obtain ⟨h0, h1, h2⟩ := h
  refine ⟨e % 8 % K + 8 * (e / 8 % 8 % K) + 64 * (e / 64 % 8 % K), ?_⟩
  unfold os_cr
  rw [h0, h1, h2]
  have hx : e = e % 8 + 8 * (e / 8 % 8) + 64 * (e / 64 % 8) := by omega
  have bx : e % 8 < 8 := by omega
  have byy : e / 8 % 8 < 8 := by omega
  have bz : e / 64 % 8 < 8 := by omega
  generalize e % 8 = x at hx bx ⊢
  generalize e / 8 % 8 = y at hx byy ⊢
  generalize e / 64 % 8 = z at hx bz ⊢
  obtain ⟨x1, x2, x3⟩ := os_mk (x := x) hK
  obtain ⟨y1, y2, y3⟩ := os_mk (x := y) hK
  obtain ⟨z1, z2, z3⟩ := os_mk (x := z) hK
  obtain ⟨g0, g1, g2⟩ := os_dg (x := x % K) (y := y % K) (z := z % K) (by omega) (by omega) (by omega)
  rw [g0, g1, g2]
  refine ⟨by omega, x1, y1, z1, ?_⟩
  generalize x / K * K = xx at x3 ⊢
  generalize y / K * K = yy at y3 ⊢
  generalize z / K * K = zz at z3 ⊢
  omega
theorem os_F3 {K c : Nat} (hK : K = 1 ∨ K = 2 ∨ K = 4 ∨ K = 8) (hc : c < 512) : os_cr K c + 73 * (K - 1) ≤ 511 := by
  unfold os_cr
  rcases hK with rfl | rfl | rfl | rfl <;> omega
theorem os_eveq (a : Nat → Int32) (B : Nat) {c k : Nat} (hc : c < 512) (hk : k < 4) : os_Al (fun e => os_tg (2 ^ k) c e → a (B + e) = a (B + c)) 0 512 ↔ os_Al (fun p => os_sb k p → a (B + os_cr (2 ^ k) c + p) = a (B + os_cr (2 ^ k) c)) 0 (os_S k + 1) := by
  have hS := os_S5 k hk
  have hK := os_K k hk
  constructor
  · intro h p _ hp
    intro hs
    obtain ⟨d0, d1, d2⟩ := (os_sbT k hk p (by omega)).mp hs
    obtain ⟨f1, f2⟩ := os_F1 hK hc (by omega) d0 d1 d2
    obtain ⟨g1, g2⟩ := os_F1 (p := 0) hK hc (by omega) (by omega) (by omega) (by omega)
    have e1 := h _ (Nat.zero_le _) f1 f2
    have e2 := h _ (Nat.zero_le _) g1 g2
    rw [← Nat.add_assoc] at e1
    rw [Nat.add_zero] at e2
    rw [e1, e2]
  · intro h e _ he
    intro ht
    obtain ⟨p, p1, p2, p3, p4, p5⟩ := os_F2 hK hc he ht
    obtain ⟨q, q1, q2, q3, q4, q5⟩ := os_F2 hK hc hc (e := c) ⟨rfl, rfl, rfl⟩
    have p1' : p < os_S k + 1 := p1
    have q1' : q < os_S k + 1 := q1
    have e1 := h p (Nat.zero_le _) p1' ((os_sbT k hk p (by omega)).mpr ⟨p2, p3, p4⟩)
    have e2 := h q (Nat.zero_le _) q1' ((os_sbT k hk q (by omega)).mpr ⟨q2, q3, q4⟩)
    have e3 : B + e = B + os_cr (2 ^ k) c + p := by omega
    have e4 : B + c = B + os_cr (2 ^ k) c + q := by omega
    rw [e3, e1, e4, e2]
/-! order and cubes -/
theorem os_xl1 (a : Nat → Int32) {r c j : Nat} (hr : r < 4) (hc : c < 512) (hj : j < 3) (n : Nat) (post : Int32 → Prop) (h1 : os_Al (fun e => os_tg (2 ^ (j + 1)) c e → a (512 * r + e) = a (512 * r + c)) 0 512 → post (nI (j + 1))) (h0 : ¬ os_Al (fun e => os_tg (2 ^ (j + 1)) c e → a (512 * r + e) = a (512 * r + c)) 0 512 → wX_largestEven_2 post (nI (512 * r)) (nI c) a n (nI j)) : wX_largestEven_2 post (nI (512 * r)) (nI c) a (n + 1) (nI (j + 1)) := by
  have hk : j + 1 < 4 := by omega
  have hS := os_S5 (j + 1) hk
  have hq : os_cr (2 ^ (j + 1)) c + os_S (j + 1) ≤ 511 := os_F3 (os_K _ hk) hc
  rw [os_eveq a (512 * r) hc hk] at h1 h0
  refine br_f (nI_nle (by omega) (by omega)) (os_xpb hk ?_)
  rw [os_crT (j + 1) hk c hc]
  unfold wpX_isEven
  rw [nI_add, nI_clamp (by omega)]
  refine ⟨vp_in_nI (by omega) (by decide), nm_e ⟨_, os_xev a hr hk hq _ _ (os_S (j + 1) + 1) 0 (by omega) (fun g => br_f os_10 (h1 g)) (fun g => br_t rfl (nm_r (pk_m1 j) (h0 g)))⟩⟩
theorem os_yl1 (a m : Nat → Int32) {r c j : Nat} (hr : r < 4) (hc : c < 512) (hj : j < 3) (n : Nat) (post : Int32 → Prop) (h1 : os_Al (fun e => os_tg (2 ^ (j + 1)) c e → a (512 * r + e) = a (512 * r + c)) 0 512 → post (nI (j + 1))) (h0 : ¬ os_Al (fun e => os_tg (2 ^ (j + 1)) c e → a (512 * r + e) = a (512 * r + c)) 0 512 → wY_order_20 post (nI r) (nI c) a m n (nI j)) : wY_order_20 post (nI r) (nI c) a m (n + 1) (nI (j + 1)) := by
  have hk : j + 1 < 4 := by omega
  refine br_f (nI_nle (by omega) (by omega)) ?_
  unfold wpY_even
  dsimp only
  exact ⟨_, os_yev a m hr hc hk _ 512 0 rfl (fun g => br_f os_10 (h1 g)) (fun g => br_t rfl (nm_r (pk_m1 j) (h0 g)))⟩
theorem os_lev (a m : Nat → Int32) {r c : Nat} (hr : r < 4) (hc : c < 512) : ∃ q, q < 4 ∧ (∀ post : Int32 → Prop, post (nI q) → wX_largestEven_2 post (nI (512 * r)) (nI c) a 4 (nI 3)) ∧ (∀ post : Int32 → Prop, post (nI q) → wY_order_20 post (nI r) (nI c) a m 4 (nI 3)) := by
  by_cases E3 : os_Al (fun e => os_tg (2 ^ (2 + 1)) c e → a (512 * r + e) = a (512 * r + c)) 0 512
  · exact ⟨3, by decide, fun post hp => os_xl1 a (j := 2) hr hc (by decide) 3 post (fun _ => hp) (fun n => absurd E3 n), fun post hp => os_yl1 a m (j := 2) hr hc (by decide) 3 post (fun _ => hp) (fun n => absurd E3 n)⟩
  · by_cases E2 : os_Al (fun e => os_tg (2 ^ (1 + 1)) c e → a (512 * r + e) = a (512 * r + c)) 0 512
    · exact ⟨2, by decide, fun post hp => os_xl1 a (j := 2) hr hc (by decide) 3 post (fun y => absurd y E3) (fun _ => os_xl1 a (j := 1) hr hc (by decide) 2 post (fun _ => hp) (fun n => absurd E2 n)), fun post hp => os_yl1 a m (j := 2) hr hc (by decide) 3 post (fun y => absurd y E3) (fun _ => os_yl1 a m (j := 1) hr hc (by decide) 2 post (fun _ => hp) (fun n => absurd E2 n))⟩
    · by_cases E1 : os_Al (fun e => os_tg (2 ^ (0 + 1)) c e → a (512 * r + e) = a (512 * r + c)) 0 512
      · exact ⟨1, by decide, fun post hp => os_xl1 a (j := 2) hr hc (by decide) 3 post (fun y => absurd y E3) (fun _ => os_xl1 a (j := 1) hr hc (by decide) 2 post (fun y => absurd y E2) (fun _ => os_xl1 a (j := 0) hr hc (by decide) 1 post (fun _ => hp) (fun n => absurd E1 n))), fun post hp => os_yl1 a m (j := 2) hr hc (by decide) 3 post (fun y => absurd y E3) (fun _ => os_yl1 a m (j := 1) hr hc (by decide) 2 post (fun y => absurd y E2) (fun _ => os_yl1 a m (j := 0) hr hc (by decide) 1 post (fun _ => hp) (fun n => absurd E1 n)))⟩
      · exact ⟨0, by decide, fun post hp => os_xl1 a (j := 2) hr hc (by decide) 3 post (fun y => absurd y E3) (fun _ => os_xl1 a (j := 1) hr hc (by decide) 2 post (fun y => absurd y E2) (fun _ => os_xl1 a (j := 0) hr hc (by decide) 1 post (fun y => absurd y E1) (fun _ => br_t (by decide) hp))), fun post hp => os_yl1 a m (j := 2) hr hc (by decide) 3 post (fun y => absurd y E3) (fun _ => os_yl1 a m (j := 1) hr hc (by decide) 2 post (fun y => absurd y E2) (fun _ => os_yl1 a m (j := 0) hr hc (by decide) 1 post (fun y => absurd y E1) (fun _ => br_t (by decide) hp)))⟩
theorem os_ord (a m : Nat → Int32) {r c : Nat} (hr : r < 4) (hc : c < 512) : ∃ q, q < 4 ∧ (∀ post : Int32 → Prop, post (nI q) → wpX_largestEven post a (nI (512 * r)) (nI c)) ∧ (∀ post : Int32 → Prop, post (nI q) → wpY_order post (a, m) (nI r) (nI c)) := by
  obtain ⟨q, hq, hX, hY⟩ := os_lev a m hr hc
  refine ⟨q, hq, fun post hp => ⟨4, hX post hp⟩, fun post hp => ?_⟩
  unfold wpY_order
  dsimp only
  exact os_ys hr (br_f os_10 (os_yc hc (br_f os_10 ⟨4, hY post hp⟩)))
theorem i_vc_order {k : Nat} {u : SX} {v : SY} (I : i_Rel k u v) (hk : k + 5 ≤ 2560) (v1 : Int32) (v2 : Int32) : wpX_order (fun r => wpY_order (fun r' => r' = r ∧ i_Rel (k + 5) u v) v v1 v2) u v1 v2 := by
  have J : i_Rel (k + 5) u v := I
  obtain ⟨m, rfl, hB⟩ := os_I I
  rcases os_sol v1 with ⟨r, hr, rfl⟩ | ⟨hx, hy⟩
  · rcases os_cel v2 with ⟨c, hc, rfl⟩ | ⟨hx, hy⟩
    · obtain ⟨q, hq, hX, hY⟩ := os_ord u m hr hc
      unfold wpX_order
      refine os_xs hr (br_f os_10 (os_xc hc (br_f os_10 ?_)))
      rw [os_bx]
      exact hX _ (hY _ ⟨rfl, J⟩)
    · unfold wpX_order wpY_order
      dsimp only
      exact os_xs hr (br_f os_10 (hx _ (br_t rfl (os_ys hr (br_f os_10 (hy _ _ _ (br_t rfl ⟨rfl, J⟩)))))))
  · unfold wpX_order wpY_order
    dsimp only
    exact hx _ (br_t rfl (hy _ _ _ (br_t rfl ⟨rfl, J⟩)))
theorem os_cub (a m : Nat → Int32) (r : Nat) (hr : r < 4) : ∀ d i : Nat, i + d = 512 → ∀ c : Int32, ∃ q : Int32, (∀ post : Int32 → Prop, post q → wX_cubes_20 post (nI (512 * r)) a (d + 1) c (nI i)) ∧ (∀ post : Int32 → Prop, post q → wY_cubes_4 post (nI r) a m (d + 1) c (nI i)) := by
  intro d
  induction d with
  | zero =>
    intro i hi c
    exact ⟨c, fun _ hp => br_t (os_ge hi) hp, fun _ hp => br_t (os_ge hi) (os_ys hr (br_f os_10 hp))⟩
  | succ d ih =>
    intro i hi c
    have h5 : i < 512 := by omega
    obtain ⟨k, hk, oX, oY⟩ := os_ord a m hr h5
    by_cases z : (nI i &&& nI (os_S k)) = 0
    · obtain ⟨q, hX, hY⟩ := ih (i + 1) (by omega) (c + 1)
      exact ⟨q, fun post hp => br_f (os_lt h5) (oX _ (os_xpb hk (br_t z (nm_e (nm_r (nI_1 i) (hX post hp)))))), fun post hp => br_f (os_lt h5) (os_ys hr (br_f os_10 (oY _ (os_ycn h5 hk (fun _ => br_f os_10 (nm_e (nm_r (nI_1 i) (hY post hp)))) (fun n => absurd z n)))))⟩
    · obtain ⟨q, hX, hY⟩ := ih (i + 1) (by omega) c
      exact ⟨q, fun post hp => br_f (os_lt h5) (oX _ (os_xpb hk (br_f z (nm_r (nI_1 i) (hX post hp))))), fun post hp => br_f (os_lt h5) (os_ys hr (br_f os_10 (oY _ (os_ycn h5 hk (fun y => absurd y z) (fun _ => br_t rfl (nm_r (nI_1 i) (hY post hp)))))))⟩
theorem i_vc_cubes {k : Nat} {u : SX} {v : SY} (I : i_Rel k u v) (hk : k + 5 ≤ 2560) (v1 : Int32) : wpX_cubes (fun r => wpY_cubes (fun r' => r' = r ∧ i_Rel (k + 5) u v) v v1) u v1 := by
  have J : i_Rel (k + 5) u v := I
  obtain ⟨m, rfl, hB⟩ := os_I I
  unfold wpX_cubes wpY_cubes
  dsimp only
  rcases os_sol v1 with ⟨r, hr, rfl⟩ | ⟨hx, hy⟩
  · obtain ⟨q, hX, hY⟩ := os_cub u m r hr 512 0 rfl 0
    exact os_xs hr (br_f os_10 (nm_r (os_bx r) ⟨_, hX _ ⟨_, hY _ ⟨rfl, J⟩⟩⟩))
  · exact hx _ (br_t rfl ⟨1, br_f (by decide) (hy _ _ _ (br_t rfl (hy _ _ _ (br_t rfl ⟨rfl, J⟩))))⟩)
end
section
/-! surface -/
theorem os_pt {c ax : Nat} (hc : c < 512) (hx : ax < 3) : (nI c >>> ((3 * nI ax) &&& 31)) &&& 7 = nI (c / 8 ^ ax % 8) := by
  have h : ax = 0 ∨ ax = 1 ∨ ax = 2 := by omega
  rcases h with rfl | rfl | rfl
  · rw [Nat.pow_zero, Nat.div_one]; exact os_p0 hc
  · exact os_p1 hc
  · exact os_p2 hc
theorem os_st : ∀ ax, ax < 3 → (1 : Int32) <<< ((3 * nI ax) &&& 31) = nI (8 ^ ax) := by decide +kernel
theorem os_sn : ∀ ax, ax < 3 → (-1 : Int32) <<< ((3 * nI ax) &&& 31) = -nI (8 ^ ax) := by decide +kernel
theorem os_up {c ax : Nat} (hc : c < 512) (hx : ax < 3) (h : ¬ c / 8 ^ ax % 8 = 7) : c + 8 ^ ax < 512 := by
  have h : ax = 0 ∨ ax = 1 ∨ ax = 2 := by omega
  rcases h with rfl | rfl | rfl <;> simp only [Nat.reducePow, Nat.div_one] at * <;> omega
theorem os_dn {c ax : Nat} (hc : c < 512) (hx : ax < 3) (h : ¬ c / 8 ^ ax % 8 = 0) : 8 ^ ax ≤ c := by
  have h : ax = 0 ∨ ax = 1 ∨ ax = 2 := by omega
  rcases h with rfl | rfl | rfl <;> simp only [Nat.reducePow, Nat.div_one] at * <;> omega
def os_lv (a : Nat → Int32) (B c ax : Nat) : Int32 := if c / 8 ^ ax % 8 = 0 ∨ a (B + c - 8 ^ ax) = 0 then 1 else 0
def os_hv (a : Nat → Int32) (B c ax : Nat) : Int32 := if c / 8 ^ ax % 8 = 7 ∨ a (B + c + 8 ^ ax) = 0 then 1 else 0
theorem os_lv1 {a : Nat → Int32} {B c ax : Nat} (h : c / 8 ^ ax % 8 = 0 ∨ a (B + c - 8 ^ ax) = 0) : os_lv a B c ax = 1 := if_pos h
theorem os_lv0 {a : Nat → Int32} {B c ax : Nat} (h : ¬ (c / 8 ^ ax % 8 = 0 ∨ a (B + c - 8 ^ ax) = 0)) : os_lv a B c ax = 0 := if_neg h
theorem os_hv1 {a : Nat → Int32} {B c ax : Nat} (h : c / 8 ^ ax % 8 = 7 ∨ a (B + c + 8 ^ ax) = 0) : os_hv a B c ax = 1 := if_pos h
theorem os_hv0 {a : Nat → Int32} {B c ax : Nat} (h : ¬ (c / 8 ^ ax % 8 = 7 ∨ a (B + c + 8 ^ ax) = 0)) : os_hv a B c ax = 0 := if_neg h
theorem os_x39 {a : Nat → Int32} {r c ax : Nat} (hr : r < 4) (hc : c < 512) (hx : ax < 3) {post : Int32 → Prop} (x6 : Int32) (hp : post (x6 + os_hv a (512 * r) c ax)) : wX_openSides_39 post (nI (512 * r)) (nI c) (nI (8 ^ ax)) (nI (c / 8 ^ ax % 8)) x6 a := by
  by_cases h7 : c / 8 ^ ax % 8 = 7
  · rw [os_hv1 (Or.inl h7)] at hp
    refine br_t ?_ (nm_e hp)
    rw [h7]
    rfl
  · have hu := os_up hc hx h7
    refine br_f (fun e => h7 ((nI_eq (b := 7) (by omega) (by decide)).mp e)) ?_
    rw [nI_add, nI_add, nI_clamp (by omega)]
    refine ⟨vp_in_nI (by omega) (by decide), br_c (fun z => ?_) (fun z => ?_)⟩
    · rw [os_hv1 (Or.inr z)] at hp
      exact nm_e hp
    · rw [os_hv0 (fun g => g.elim h7 z), Int32.add_zero] at hp
      exact hp
theorem os_x36 {a : Nat → Int32} {r c ax : Nat} (hr : r < 4) (hc : c < 512) (hx : ax < 3) {post : Int32 → Prop} (hp : post (1 + os_hv a (512 * r) c ax)) : wX_openSides_36 post (nI (512 * r)) (nI c) (nI (8 ^ ax)) (nI (c / 8 ^ ax % 8)) 0 a :=
  nm_r (show (0 : Int32) + 1 = 1 from by decide) (os_x39 hr hc hx 1 hp)
theorem os_xop {a : Nat → Int32} {r c ax : Nat} (hr : r < 4) (hc : c < 512) (hx : ax < 3) {post : Int32 → Prop} (hp : post (os_lv a (512 * r) c ax + os_hv a (512 * r) c ax)) : wpX_openSides post a (nI (512 * r)) (nI c) (nI ax) := by
  unfold wpX_openSides wpX_coordinate
  dsimp only
  rw [os_pt hc hx]
  refine nm_r (os_st ax hx) ?_
  by_cases h0 : c / 8 ^ ax % 8 = 0
  · rw [os_lv1 (Or.inl h0)] at hp
    refine br_t ?_ (os_x36 hr hc hx hp)
    rw [h0]
    rfl
  · have hd := os_dn hc hx h0
    refine br_f (nI_ne0 (by omega) (by omega)) ?_
    have hp8 : 0 < 8 ^ ax := Nat.pow_pos (by decide)
    rw [nI_add, pk_sub (by omega), nI_clamp (by omega)]
    refine ⟨vp_in_nI (by omega) (by decide), br_c (fun z => ?_) (fun z => ?_)⟩
    · rw [os_lv1 (Or.inr z)] at hp
      exact os_x36 hr hc hx hp
    · rw [os_lv0 (fun g => g.elim h0 z)] at hp
      exact os_x39 hr hc hx 0 hp
theorem os_ynz {a m : Nat → Int32} {post : Int32 → Prop} {p0 p1 p2 : Int32} (hp : ∀ q, post q) : wpY_neighbour post (a, m) p0 p1 p2 := by
  unfold wpY_neighbour wpY_part
  dsimp only
  exact nm_e (br_c (fun _ => hp _) (fun _ => br_c (fun _ => hp _) (fun _ => hp _)))
theorem os_y47z {a m : Nat → Int32} {r c t : Nat} (hr : r < 4) (hc : c < 512) {post : Int32 → Prop} {J4 J : Int32 → Int32 → Prop} {x2 z0 z1 z2 : Int32} (z : a (512 * r + c) = 0) (h : J x2 (nI (t + 1))) : wY_surface_47 post J4 J (nI r) x2 (nI c) (nI t) z0 z1 z2 a m :=
  os_ynz (fun q => ⟨os_yv hr hc, br_t (by rw [os_yi hr hc]; exact z) (nm_r (nI_1 t) h)⟩)
theorem os_y47p {a m : Nat → Int32} {r c t ax : Nat} (hr : r < 4) (hc : c < 512) (hx : ax < 3) {post : Int32 → Prop} {J4 J : Int32 → Int32 → Prop} {x2 : Int32} (z : ¬ a (512 * r + c) = 0) (h : J (x2 + os_hv a (512 * r) c ax) (nI (t + 1))) : wY_surface_47 post J4 J (nI r) x2 (nI c) (nI t) 1 (nI ax) (nI c) a m := by
  unfold wY_surface_47 wpY_neighbour wpY_part
  dsimp only
  rw [os_pt hc hx, os_st ax hx, os_yi hr hc]
  by_cases h7 : c / 8 ^ ax % 8 = 7
  · rw [os_hv1 (Or.inl h7)] at h
    exact nm_r (nI_1 _) (br_f (nI_pos (by omega)) (br_f (nI_ge (a := 7) (by omega) (by omega)) ⟨os_yv hr hc, br_f z (br_t (by decide) (nm_e (nm_r (nI_1 t) h)))⟩))
  · have hu := os_up hc hx h7
    refine nm_r (nI_1 _) (br_f (nI_pos (by omega)) (br_t (nI_le (b := 7) (by omega) (by omega)) ⟨os_yv hr hc, br_f z ?_⟩))
    rw [nI_add]
    refine br_f (nI_pos (by omega)) ⟨os_yv hr hu, ?_⟩
    rw [os_yi hr hu, ← Nat.add_assoc]
    refine br_c (fun w => ?_) (fun w => ?_)
    · rw [os_hv1 (Or.inr w)] at h
      exact nm_e (nm_r (nI_1 t) h)
    · rw [os_hv0 (fun g => g.elim h7 w), Int32.add_zero] at h
      exact nm_r (nI_1 t) h
theorem os_y47n {a m : Nat → Int32} {r c t ax : Nat} (hr : r < 4) (hc : c < 512) (hx : ax < 3) {post : Int32 → Prop} {J4 J : Int32 → Int32 → Prop} {x2 : Int32} (z : ¬ a (512 * r + c) = 0) (h : J (x2 + os_lv a (512 * r) c ax) (nI (t + 1))) : wY_surface_47 post J4 J (nI r) x2 (nI c) (nI t) (-1) (nI ax) (nI c) a m := by
  unfold wY_surface_47 wpY_neighbour wpY_part
  dsimp only
  rw [os_pt hc hx, os_sn ax hx, os_yi hr hc]
  by_cases h0 : c / 8 ^ ax % 8 = 0
  · rw [os_lv1 (Or.inl h0)] at h
    rw [h0]
    exact nm_e (br_t (by decide) ⟨os_yv hr hc, br_f z (br_t (by decide) (nm_e (nm_r (nI_1 t) h)))⟩)
  · have hd := os_dn hc hx h0
    obtain ⟨j, hj⟩ : ∃ j, c / 8 ^ ax % 8 = j + 1 := ⟨c / 8 ^ ax % 8 - 1, by omega⟩
    have hj7 : j < 7 := by omega
    rw [hj]
    refine nm_r (pk_m1 j) (br_f (nI_pos (by omega)) (br_t (nI_le (b := 7) (by omega) (by omega)) ⟨os_yv hr hc, br_f z ?_⟩))
    have hp8 : 0 < 8 ^ ax := Nat.pow_pos (by decide)
    have hl : c - 8 ^ ax < 512 := by omega
    rw [← Int32.sub_eq_add_neg, pk_sub hd]
    refine br_f (nI_pos (by omega)) ⟨os_yv hr hl, ?_⟩
    rw [os_yi hr hl, show 512 * r + (c - 8 ^ ax) = 512 * r + c - 8 ^ ax by omega]
    refine br_c (fun w => ?_) (fun w => ?_)
    · rw [os_lv1 (Or.inr w)] at h
      exact nm_e (nm_r (nI_1 t) h)
    · rw [os_lv0 (fun g => g.elim h0 w), Int32.add_zero] at h
      exact nm_r (nI_1 t) h
theorem os_y22s {a m : Nat → Int32} {post : Int32 → Prop} {J4 : Int32 → Int32 → Prop} {x1 x3 x2 : Int32} (n t : Nat) (ht : t < 6) (h0 : t % 2 = 0 → wY_surface_47 post J4 (wY_surface_22 post J4 x1 x3 a m n) x1 x2 x3 (nI t) 1 (nI (t / 2)) x3 a m) (h1 : ¬ t % 2 = 0 → wY_surface_47 post J4 (wY_surface_22 post J4 x1 x3 a m n) x1 x2 x3 (nI t) (-1) (nI (t / 2)) x3 a m) : wY_surface_22 post J4 x1 x3 a m (n + 1) x2 (nI t) := by
  have e1 : nI t - nI t / 2 * 2 = nI (t % 2) := pk_rem (d := 2) (by omega) (by decide) (by decide)
  have e2 : nI t / 2 = nI (t / 2) := pk_div (d := 2) (by omega) (by decide) (by decide)
  refine br_f (nI_ge (b := 6) ht (by decide)) ⟨by decide, by decide, ?_⟩
  rw [e1, e2]
  exact br_c (fun e => h0 ((nI_eq (b := 0) (by omega) (by decide)).mp e)) (fun e => h1 (fun g => e ((nI_eq (b := 0) (by omega) (by decide)).mpr g)))
theorem os_y22z {a m : Nat → Int32} {r c : Nat} (hr : r < 4) (hc : c < 512) {post : Int32 → Prop} {J4 : Int32 → Int32 → Prop} {x2 : Int32} (z : a (512 * r + c) = 0) (h : J4 x2 (nI (c + 1))) : ∀ d t : Nat, t + d = 6 → wY_surface_22 post J4 (nI r) (nI c) a m (d + 1) x2 (nI t) := by
  intro d
  induction d with
  | zero =>
    intro t ht
    exact br_t (nI_le (a := 6) (by omega) (by omega)) (nm_r (nI_1 c) h)
  | succ d ih =>
    intro t ht
    exact os_y22s _ t (by omega) (fun _ => os_y47z hr hc z (ih (t + 1) (by omega))) (fun _ => os_y47z hr hc z (ih (t + 1) (by omega)))
theorem os_y22 {a m : Nat → Int32} {r c : Nat} (hr : r < 4) (hc : c < 512) {post : Int32 → Prop} {J4 : Int32 → Int32 → Prop} {x2 : Int32} (z : ¬ a (512 * r + c) = 0) (h : J4 (((x2 + (os_lv a (512 * r) c 0 + os_hv a (512 * r) c 0)) + (os_lv a (512 * r) c 1 + os_hv a (512 * r) c 1)) + (os_lv a (512 * r) c 2 + os_hv a (512 * r) c 2)) (nI (c + 1))) : wY_surface_22 post J4 (nI r) (nI c) a m 7 x2 (nI 0) := by
  have e : ∀ l0 h0 l1 h1 l2 h2 : Int32, ((x2 + (l0 + h0)) + (l1 + h1)) + (l2 + h2) = (((((x2 + h0) + l0) + h1) + l1) + h2) + l2 := by
    intro l0 h0 l1 h1 l2 h2
    first | ac_rfl | grind
  rw [e] at h
  refine os_y22s 6 0 (by decide) (fun _ => os_y47p (ax := 0) hr hc (by decide) z ?_) (fun n => absurd rfl n)
  refine os_y22s 5 1 (by decide) (fun n => absurd n (by decide)) (fun _ => os_y47n (ax := 0) hr hc (by decide) z ?_)
  refine os_y22s 4 2 (by decide) (fun _ => os_y47p (ax := 1) hr hc (by decide) z ?_) (fun n => absurd rfl n)
  refine os_y22s 3 3 (by decide) (fun n => absurd n (by decide)) (fun _ => os_y47n (ax := 1) hr hc (by decide) z ?_)
  refine os_y22s 2 4 (by decide) (fun _ => os_y47p (ax := 2) hr hc (by decide) z ?_) (fun n => absurd rfl n)
  refine os_y22s 1 5 (by decide) (fun n => absurd n (by decide)) (fun _ => os_y47n (ax := 2) hr hc (by decide) z ?_)
  exact br_t (by decide) (nm_r (nI_1 c) h)
theorem os_x43s {a : Nat → Int32} {r c : Nat} (hr : r < 4) (hc : c < 512) {post : Int32 → Prop} {J : Int32 → Int32 → Prop} {x3 : Int32} (n ax : Nat) (hx : ax < 3) (h : wX_surface_43 post J (nI (512 * r)) (nI c) a n (x3 + (os_lv a (512 * r) c ax + os_hv a (512 * r) c ax)) (nI (ax + 1))) : wX_surface_43 post J (nI (512 * r)) (nI c) a (n + 1) x3 (nI ax) :=
  br_f (nI_ge (b := 3) hx (by decide)) (os_xop hr hc hx (nm_e (nm_r (nI_1 ax) h)))
theorem os_x43 {a : Nat → Int32} {r c : Nat} (hr : r < 4) (hc : c < 512) {post : Int32 → Prop} {J : Int32 → Int32 → Prop} {x3 : Int32} (h : J (((x3 + (os_lv a (512 * r) c 0 + os_hv a (512 * r) c 0)) + (os_lv a (512 * r) c 1 + os_hv a (512 * r) c 1)) + (os_lv a (512 * r) c 2 + os_hv a (512 * r) c 2)) (nI (c + 1))) : wX_surface_43 post J (nI (512 * r)) (nI c) a 4 x3 (nI 0) :=
  os_x43s hr hc 3 0 (by decide) (os_x43s hr hc 2 1 (by decide) (os_x43s hr hc 1 2 (by decide) (br_t (by decide) (nm_r (nI_1 c) h))))
theorem os_sur (a m : Nat → Int32) (r : Nat) (hr : r < 4) : ∀ d i : Nat, i + d = 512 → ∀ c : Int32, ∃ q : Int32, (∀ post : Int32 → Prop, post q → wX_surface_20 post (nI (512 * r)) a (d + 1) c (nI i)) ∧ (∀ post : Int32 → Prop, post q → wY_surface_4 post (nI r) a m (d + 1) c (nI i)) := by
  intro d
  induction d with
  | zero =>
    intro i hi c
    exact ⟨c, fun _ hp => br_t (os_ge hi) hp, fun _ hp => br_t (os_ge hi) (os_ys hr (br_f os_10 hp))⟩
  | succ d ih =>
    intro i hi c
    have h5 : i < 512 := by omega
    by_cases z : a (512 * r + i) = 0
    · obtain ⟨q, hX, hY⟩ := ih (i + 1) (by omega) c
      exact ⟨q, fun post hp => br_f (os_lt h5) ⟨os_xv hr h5, br_t (by rw [os_xi hr h5]; exact z) (nm_r (nI_1 i) (hX post hp))⟩, fun post hp => br_f (os_lt h5) (os_ys hr (br_f os_10 ⟨7, os_y22z hr h5 z (hY post hp) 6 0 rfl⟩))⟩
    · obtain ⟨q, hX, hY⟩ := ih (i + 1) (by omega) (((c + (os_lv a (512 * r) i 0 + os_hv a (512 * r) i 0)) + (os_lv a (512 * r) i 1 + os_hv a (512 * r) i 1)) + (os_lv a (512 * r) i 2 + os_hv a (512 * r) i 2))
      exact ⟨q, fun post hp => br_f (os_lt h5) ⟨os_xv hr h5, br_f (by rw [os_xi hr h5]; exact z) ⟨4, os_x43 hr h5 (hX post hp)⟩⟩, fun post hp => br_f (os_lt h5) (os_ys hr (br_f os_10 ⟨7, os_y22 hr h5 z (hY post hp)⟩))⟩
theorem i_vc_surface {k : Nat} {u : SX} {v : SY} (I : i_Rel k u v) (hk : k + 5 ≤ 2560) (v1 : Int32) : wpX_surface (fun r => wpY_surface (fun r' => r' = r ∧ i_Rel (k + 5) u v) v v1) u v1 := by
  have J : i_Rel (k + 5) u v := I
  obtain ⟨m, rfl, hB⟩ := os_I I
  unfold wpX_surface wpY_surface
  dsimp only
  rcases os_sol v1 with ⟨r, hr, rfl⟩ | ⟨hx, hy⟩
  · obtain ⟨q, hX, hY⟩ := os_sur u m r hr 512 0 rfl 0
    exact os_xs hr (br_f os_10 (nm_r (os_bx r) ⟨_, hX _ ⟨_, hY _ ⟨rfl, J⟩⟩⟩))
  · exact hx _ (br_t rfl ⟨1, br_f (by decide) (hy _ _ _ (br_t rfl (hy _ _ _ (br_t rfl ⟨rfl, J⟩))))⟩)
end
section
/-! kinds -/
def os_at (k e : Nat) : Nat := e % 2 ^ k + 8 * (e / 2 ^ k % 2 ^ k) + 64 * (e / 4 ^ k)
theorem os_k8 : ∀ k, k < 4 → (1 : Int32) <<< ((3 * nI k) &&& 31) = nI (8 ^ k) := by decide +kernel
theorem os_k9 : ∀ k, k < 4 → 8 ^ k ≤ 512 := by decide
theorem os_atI : ∀ k, k < 4 → ∀ e, e < 512 → ((nI e &&& nI (2 ^ k - 1)) + (8 * ((nI e >>> (nI k &&& 31)) &&& nI (2 ^ k - 1)))) + (64 * (nI e >>> ((2 * nI k) &&& 31))) = nI (os_at k e) := by decide +kernel
theorem os_atD : ∀ k, k < 4 → ∀ e, e < 512 → e < 8 ^ k → os_at k e < os_S k + 1 ∧ os_at k e % 8 < 2 ^ k ∧ os_at k e / 8 % 8 < 2 ^ k ∧ os_at k e / 64 % 8 < 2 ^ k := by decide +kernel
theorem os_atS : ∀ k, k < 4 → ∀ p, p < 512 → (p % 8 < 2 ^ k ∧ p / 8 % 8 < 2 ^ k ∧ p / 64 % 8 < 2 ^ k) → (p % 8 + 2 ^ k * (p / 8 % 8) + 4 ^ k * (p / 64 % 8) < 8 ^ k ∧ os_at k (p % 8 + 2 ^ k * (p / 8 % 8) + 4 ^ k * (p / 64 % 8)) = p) := by decide +kernel
theorem os_cnS : ∀ k, k < 4 → ∀ c, c < 512 → (nI c &&& nI (os_S k)) = 0 → c + os_S k ≤ 511 := by decide +kernel
theorem os_xal (a : Nat → Int32) {A C k : Nat} (hk : k < 4) (hA : A + os_S k < 2048) (hC : C + os_S k < 2048) (post : Int32 → Prop) : ∀ d i : Nat, i + d = os_S k + 1 → (os_Al (fun p => os_sb k p → a (A + p) = a (C + p)) i (os_S k + 1) → post 1) → (¬ os_Al (fun p => os_sb k p → a (A + p) = a (C + p)) i (os_S k + 1) → post 0) → wX_isAlike_3 post (nI A) (nI C) (nI (os_S k)) a (d + 1) (nI i) := by
  intro d
  induction d with
  | zero => intro i hi h1 h0; exact br_t (nI_lt (by omega) (by omega)) (h1 (os_al_0 (by omega)))
  | succ d ih =>
    intro i hi h1 h0
    have h5 : i < os_S k + 1 := by omega
    refine br_f (nI_nlt (by omega) (by omega)) (br_c (fun g => ?_) (fun g => nm_r (nI_1 i) (ih (i + 1) (by omega) (fun y => h1 (os_al_s (fun x => absurd x g) y)) (fun y => h0 (os_al_n y)))))
    rw [nI_add A i, nI_add C i]
    refine ⟨vp_in_nI (by omega) (by decide), vp_in_nI (by omega) (by decide), ?_⟩
    rw [nI_clamp (n := A + i) (by omega), nI_clamp (n := C + i) (by omega)]
    exact br_c (fun z => nm_r (nI_1 i) (ih (i + 1) (by omega) (fun y => h1 (os_al_s (fun _ => z) y)) (fun y => h0 (os_al_n y)))) (fun z => h0 (os_al_f h5 (fun y => z (y g))))
theorem os_yal0 {post : Int32 → Prop} {x1 x2 x3 : Int32} {a m : Nat → Int32} {k : Nat} (hk : k < 4) (hp : post 0) : ∀ d i : Nat, i + d = 8 ^ k → wY_alike_6 post x1 x2 x3 (nI k) a m (d + 1) 0 (nI i) := by
  have h9 := os_k9 k hk
  intro d
  induction d with
  | zero =>
    intro i hi
    exact br_t (by rw [os_k8 k hk]; exact nI_le (by omega) (by omega)) ⟨rfl, hp⟩
  | succ d ih =>
    intro i hi
    exact br_f (by rw [os_k8 k hk]; exact nI_ge (by omega) (by omega)) (nm_e (nm_e (br_t rfl (nm_r (nI_1 i) (ih (i + 1) (by omega))))))
theorem os_yal (a m : Nat → Int32) {r c e k : Nat} (hr : r < 4) (hk : k < 4) (hc : c + os_S k ≤ 511) (he : e + os_S k ≤ 511) (post : Int32 → Prop) : ∀ d i : Nat, i + d = 8 ^ k → (os_Al (fun p => a (512 * r + c + os_at k p) = a (512 * r + e + os_at k p)) i (8 ^ k) → post 1) → (¬ os_Al (fun p => a (512 * r + c + os_at k p) = a (512 * r + e + os_at k p)) i (8 ^ k) → post 0) → wY_alike_6 post (nI r) (nI c) (nI e) (nI k) a m (d + 1) 1 (nI i) := by
  have h9 := os_k9 k hk
  intro d
  induction d with
  | zero =>
    intro i hi h1 h0
    exact br_t (by rw [os_k8 k hk]; exact nI_le (by omega) (by omega)) ⟨rfl, h1 (os_al_0 (by omega))⟩
  | succ d ih =>
    intro i hi h1 h0
    have h5 : i < 8 ^ k := by omega
    obtain ⟨t1, _, _, _⟩ := os_atD k hk i (by omega) h5
    refine br_f (by rw [os_k8 k hk]; exact nI_ge (by omega) (by omega)) (nm_r (os_lw k hk) (nm_r (os_atI k hk i (by omega)) (br_f os_10 ?_)))
    rw [os_by, nI_add (512 * r) c, nI_add (512 * r) e, nI_add (512 * r + c), nI_add (512 * r + e)]
    refine ⟨vp_in_nI (by omega) (by decide), vp_in_nI (by omega) (by decide), ?_⟩
    rw [nI_clamp (n := 512 * r + c + os_at k i) (by omega), nI_clamp (n := 512 * r + e + os_at k i) (by omega)]
    exact br_c (fun z => nm_r (nI_1 i) (ih (i + 1) (by omega) (fun y => h1 (os_al_s z y)) (fun y => h0 (os_al_n y)))) (fun z => nm_r (nI_1 i) (os_yal0 hk (h0 (os_al_f h5 z)) d (i + 1) (by omega)))
theorem os_aleq (a : Nat → Int32) {A C k : Nat} (hk : k < 4) : os_Al (fun p => os_sb k p → a (A + p) = a (C + p)) 0 (os_S k + 1) ↔ os_Al (fun p => a (C + os_at k p) = a (A + os_at k p)) 0 (8 ^ k) := by
  have hS := os_S5 k hk
  have h9 := os_k9 k hk
  constructor
  · intro h e _ he
    obtain ⟨t1, t2, t3, t4⟩ := os_atD k hk e (by omega) he
    exact (h (os_at k e) (Nat.zero_le _) t1 ((os_sbT k hk _ (by omega)).mpr ⟨t2, t3, t4⟩)).symm
  · intro h p _ hp hs
    obtain ⟨g1, g2⟩ := os_atS k hk p (by omega) ((os_sbT k hk p (by omega)).mp hs)
    have w := h _ (Nat.zero_le _) g1
    dsimp only at w
    rw [g2] at w
    exact w.symm
def os_Q (a : Nat → Int32) (r c k : Nat) (e : Nat) : Prop := ¬ ((nI e &&& nI (os_S k)) = 0 ∧ os_Al (fun p => os_sb k p → a (512 * r + e + p) = a (512 * r + c + p)) 0 (os_S k + 1))
theorem os_xnk (a : Nat → Int32) {r c k : Nat} (hr : r < 4) (hc : c < 512) (hk : k < 4) (hn : (nI c &&& nI (os_S k)) = 0) (post : Int32 → Prop) : ∀ t i : Nat, i + t = c → (os_Al (os_Q a r c k) i c → post 1) → (¬ os_Al (os_Q a r c k) i c → post 0) → wX_isNewKind_3 post (nI (512 * r)) (nI c) (nI (os_S k)) a (t + 1) (nI i) := by
  have hS := os_cnS k hk c hc hn
  intro t
  induction t with
  | zero => intro i hi h1 h0; exact br_t (nI_le (by omega) (by omega)) (h1 (os_al_0 (by omega)))
  | succ t ih =>
    intro i hi h1 h0
    have h5 : i < c := by omega
    refine br_f (nI_ge h5 (by omega)) (br_c (fun g => ?_) (fun g => nm_r (nI_1 i) (ih (i + 1) (by omega) (fun y => h1 (os_al_s (fun x => g x.1) y)) (fun y => h0 (os_al_n y)))))
    have hS2 := os_cnS k hk i (by omega) g
    rw [nI_add (512 * r) i, nI_add (512 * r) c]
    exact ⟨_, os_xal a hk (by omega) (by omega) _ (os_S k + 1) 0 (by omega) (fun w => br_f os_10 (h0 (os_al_f h5 (fun x => x ⟨g, w⟩)))) (fun w => br_t rfl (nm_r (nI_1 i) (ih (i + 1) (by omega) (fun y => h1 (os_al_s (fun x => w x.2) y)) (fun y => h0 (os_al_n y)))))⟩
theorem os_y440 {post : Int32 → Prop} {J : Int32 → Int32 → Prop} {x1 x2 x3 x6 : Int32} {a m : Nat → Int32} {c : Nat} (n : Nat) (h : J x3 (nI (c + 1))) : wY_kinds_44 post J x1 x2 x3 (nI c) a m (n + 1) 0 x6 :=
  br_c (fun _ => br_t rfl (nm_r (nI_1 c) h)) (fun _ => br_t rfl (br_t rfl (nm_r (nI_1 c) h)))
theorem os_y44 (a m : Nat → Int32) {r c k : Nat} (hr : r < 4) (hc : c < 512) (hk : k < 4) (hn : (nI c &&& nI (os_S k)) = 0) (post : Int32 → Prop) (J : Int32 → Int32 → Prop) (x3 : Int32) : ∀ t i : Nat, i + t = c → (os_Al (os_Q a r c k) i c → J (x3 + 1) (nI (c + 1))) → (¬ os_Al (os_Q a r c k) i c → J x3 (nI (c + 1))) → wY_kinds_44 post J (nI r) (nI k) x3 (nI c) a m (t + 1) 1 (nI i) := by
  have hS := os_cnS k hk c hc hn
  intro t
  induction t with
  | zero => intro i hi h1 h0; exact br_t (nI_le (by omega) (by omega)) (br_f os_10 (nm_e (nm_r (nI_1 c) (h1 (os_al_0 (by omega))))))
  | succ t ih =>
    intro i hi h1 h0
    have h5 : i < c := by omega
    refine br_f (nI_ge h5 (by omega)) (br_f os_10 (os_ycn (by omega) hk (fun g => br_f os_10 ?_) (fun g => br_t rfl (nm_r (nI_1 i) (ih (i + 1) (by omega) (fun y => h1 (os_al_s (fun x => g x.1) y)) (fun y => h0 (os_al_n y)))))))
    have hS2 := os_cnS k hk i (by omega) g
    unfold wpY_alike
    dsimp only
    refine ⟨_, os_yal a m hr hk hS hS2 _ (8 ^ k) 0 (by omega) (fun w => br_f os_10 (nm_e (os_y440 t (h0 (os_al_f h5 (fun x => x ⟨g, (os_aleq a hk).mpr w⟩)))))) (fun w => br_t rfl (nm_r (nI_1 i) (ih (i + 1) (by omega) (fun y => h1 (os_al_s (fun x => w ((os_aleq a hk).mp x.2)) y)) (fun y => h0 (os_al_n y)))))⟩
theorem os_knd (a m : Nat → Int32) (r k : Nat) (hr : r < 4) (hk : k < 4) : ∀ d i : Nat, i + d = 512 → ∀ c : Int32, ∃ q : Int32, (∀ post : Int32 → Prop, post q → wX_kinds_36 post (nI (512 * r)) (nI (os_S k)) a (d + 1) c (nI i)) ∧ (∀ post : Int32 → Prop, post q → wY_kinds_24 post (nI r) (nI k) a m (d + 1) c (nI i)) := by
  intro d
  induction d with
  | zero =>
    intro i hi c
    exact ⟨c, fun _ hp => br_t (os_ge hi) hp, fun _ hp => br_t (os_ge hi) hp⟩
  | succ d ih =>
    intro i hi c
    have h5 : i < 512 := by omega
    by_cases z : (nI i &&& nI (os_S k)) = 0
    · by_cases N : os_Al (os_Q a r i k) 0 i
      · obtain ⟨q, hX, hY⟩ := ih (i + 1) (by omega) (c + 1)
        exact ⟨q, fun post hp => br_f (os_lt h5) (br_t z ⟨_, os_xnk a hr h5 hk z _ i 0 (by omega) (fun _ => br_f os_10 (nm_e (nm_r (nI_1 i) (hX post hp)))) (fun n => absurd N n)⟩), fun post hp => br_f (os_lt h5) (os_ycn h5 hk (fun _ => ⟨_, os_y44 a m hr h5 hk z post _ c i 0 (by omega) (fun _ => hY post hp) (fun n => absurd N n)⟩) (fun n => absurd z n))⟩
      · obtain ⟨q, hX, hY⟩ := ih (i + 1) (by omega) c
        exact ⟨q, fun post hp => br_f (os_lt h5) (br_t z ⟨_, os_xnk a hr h5 hk z _ i 0 (by omega) (fun y => absurd y N) (fun _ => br_t rfl (nm_r (nI_1 i) (hX post hp)))⟩), fun post hp => br_f (os_lt h5) (os_ycn h5 hk (fun _ => ⟨_, os_y44 a m hr h5 hk z post _ c i 0 (by omega) (fun y => absurd y N) (fun _ => hY post hp)⟩) (fun n => absurd z n))⟩
    · obtain ⟨q, hX, hY⟩ := ih (i + 1) (by omega) c
      exact ⟨q, fun post hp => br_f (os_lt h5) (br_f z (nm_r (nI_1 i) (hX post hp))), fun post hp => br_f (os_lt h5) (os_ycn h5 hk (fun y => absurd y z) (fun _ => ⟨1, os_y440 0 (hY post hp)⟩))⟩
theorem i_vc_kinds {k : Nat} {u : SX} {v : SY} (I : i_Rel k u v) (hk : k + 5 ≤ 2560) (v1 : Int32) (v2 : Int32) : wpX_kinds (fun r => wpY_kinds (fun r' => r' = r ∧ i_Rel (k + 5) u v) v v1 v2) u v1 v2 := by
  have J : i_Rel (k + 5) u v := I
  obtain ⟨m, rfl, hB⟩ := os_I I
  unfold wpX_kinds wpY_kinds
  dsimp only
  rcases os_sol v1 with ⟨r, hr, rfl⟩ | ⟨hx, hy⟩
  · refine os_xs hr (br_f os_10 ?_)
    by_cases h0 : v2 < 0
    · exact br_t h0 (os_ys hr (br_f os_10 (br_t h0 ⟨rfl, J⟩)))
    · obtain ⟨j, hj, rfl⟩ := nI_of h0
      by_cases h3 : j < 4
      · obtain ⟨q, hX, hY⟩ := os_knd u m r j hr h3 512 0 rfl 0
        have l3 : nI j ≤ 3 := nI_le (b := 3) (by omega) (by decide)
        exact br_f h0 (br_t l3 (nm_r (os_bx r) (os_xpb h3 ⟨_, hX _ (os_ys hr (br_f os_10 (br_f h0 (br_t l3 ⟨_, hY _ ⟨rfl, J⟩⟩))))⟩)))
      · have l3 : ¬ nI j ≤ 3 := nI_ge (a := 3) (by omega) hj
        exact br_f h0 (br_f l3 (os_ys hr (br_f os_10 (br_f h0 (br_f l3 ⟨rfl, J⟩)))))
  · exact hx _ (br_t rfl (hy _ _ _ (br_t rfl ⟨rfl, J⟩)))
end
