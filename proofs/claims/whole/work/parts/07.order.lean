/-! bits of a cell's number -/
def os_S (k : Nat) : Nat := 73 * (2 ^ k - 1)
theorem os_pb : ∀ k, k < 4 → 73 * (((1 : Int32) <<< (nI k &&& 31)) - 1) = nI (os_S k) := by decide +kernel
theorem os_lw : ∀ k, k < 4 → ((1 : Int32) <<< (nI k &&& 31)) - 1 = nI (2 ^ k - 1) := by decide +kernel
theorem os_S5 : ∀ k, k < 4 → os_S k < 512 := by decide +kernel
theorem os_xpb {post : Int32 → Prop} {k : Nat} (hk : k < 4) (h : post (nI (os_S k))) : wpX_placeBits post (nI k) := by
  unfold wpX_placeBits
  rw [os_pb k hk]
  exact h
def os_sb (k p : Nat) : Prop := (nI p &&& (nI (os_S k) ^^^ (-1))) = 0
def os_cr (K c : Nat) : Nat := (c % 8 / K * K) + 8 * (c / 8 % 8 / K * K) + 64 * (c / 64 % 8 / K * K)
theorem os_sbT : ∀ k, k < 4 → ∀ p, p < 512 → ((nI p &&& (nI (os_S k) ^^^ (-1))) = 0 ↔ (p % 8 < 2 ^ k ∧ p / 8 % 8 < 2 ^ k ∧ p / 64 % 8 < 2 ^ k)) := by decide +kernel
theorem os_crT : ∀ k, k < 4 → ∀ c, c < 512 → nI c &&& (nI (os_S k) ^^^ (-1)) = nI (os_cr (2 ^ k) c) := by decide +kernel
theorem os_cnT : ∀ k, k < 4 → ∀ c, c < 512 → ((nI c &&& nI (os_S k)) = 0 ↔ ((nI (c % 8) &&& nI (2 ^ k - 1)) = 0 ∧ (nI (c / 8 % 8) &&& nI (2 ^ k - 1)) = 0 ∧ (nI (c / 64 % 8) &&& nI (2 ^ k - 1)) = 0)) := by decide +kernel
theorem os_K : ∀ k, k < 4 → (2 ^ k = 1 ∨ 2 ^ k = 2 ∨ 2 ^ k = 4 ∨ 2 ^ k = 8) := by decide
theorem os_p0 {c : Nat} (hc : c < 512) : (nI c >>> ((3 * (0 : Int32)) &&& 31)) &&& 7 = nI (c % 8) := by
  rw [pk_shrN (by omega) _ 0 (by decide), Nat.pow_zero, Nat.div_one, pk_andN (by omega) 3 (by decide)]
theorem os_p1 {c : Nat} (hc : c < 512) : (nI c >>> ((3 * (1 : Int32)) &&& 31)) &&& 7 = nI (c / 8 % 8) := by
  rw [pk_shrN (by omega) _ 3 (by decide), pk_andN (by omega) 3 (by decide)]
theorem os_p2 {c : Nat} (hc : c < 512) : (nI c >>> ((3 * (2 : Int32)) &&& 31)) &&& 7 = nI (c / 64 % 8) := by
  rw [pk_shrN (by omega) _ 6 (by decide), pk_andN (by omega) 3 (by decide)]
theorem os_ycn {post : Int32 → Prop} {a m : Nat → Int32} {c k : Nat} (hc : c < 512) (hk : k < 4) (h1 : (nI c &&& nI (os_S k)) = 0 → post 1) (h0 : ¬ (nI c &&& nI (os_S k)) = 0 → post 0) : wpY_corner post (a, m) (nI c) (nI k) := by
  unfold wpY_corner wpY_part
  dsimp only
  rw [os_p0 hc, os_p1 hc, os_p2 hc]
  rw [os_cnT k hk c hc] at h1 h0
  exact nm_r (os_lw k hk) (br_c (fun q0 => br_c (fun q1 => br_c (fun q2 => h1 ⟨q0, q1, q2⟩) (fun q2 => h0 (fun g => q2 g.2.2))) (fun q1 => h0 (fun g => q1 g.2.1))) (fun q0 => h0 (fun g => q0 g.1)))
def os_tg (K c e : Nat) : Prop := c % 8 / K = e % 8 / K ∧ c / 8 % 8 / K = e / 8 % 8 / K ∧ c / 64 % 8 / K = e / 64 % 8 / K
theorem os_ytg {post : Int32 → Prop} {a m : Nat → Int32} {c e k : Nat} (hc : c < 512) (he : e < 512) (hk : k < 4) (h1 : os_tg (2 ^ k) c e → post 1) (h0 : ¬ os_tg (2 ^ k) c e → post 0) : wpY_together post (a, m) (nI c) (nI e) (nI k) := by
  unfold wpY_together wpY_part
  dsimp only
  have sh : ∀ x, x < 8 → nI x >>> (nI k &&& 31) = nI (x / 2 ^ k) := fun x hx => pk_shrN (by omega) _ k (s_l k (by omega))
  have ne : ∀ x y, x < 8 → y < 8 → (nI (x / 2 ^ k) = nI (y / 2 ^ k) ↔ x / 2 ^ k = y / 2 ^ k) := by
    intro x y hx hy
    have h2 := Nat.div_le_self x (2 ^ k)
    have h3 := Nat.div_le_self y (2 ^ k)
    exact nI_eq (by omega) (by omega)
  rw [os_p0 hc, os_p1 hc, os_p2 hc, os_p0 he, os_p1 he, os_p2 he]
  rw [sh (c % 8) (by omega), sh (c / 8 % 8) (by omega), sh (c / 64 % 8) (by omega), sh (e % 8) (by omega), sh (e / 8 % 8) (by omega), sh (e / 64 % 8) (by omega)]
  rw [ne (c % 8) (e % 8) (by omega) (by omega), ne (c / 8 % 8) (e / 8 % 8) (by omega) (by omega), ne (c / 64 % 8) (e / 64 % 8) (by omega) (by omega)]
  exact br_c (fun q0 => br_c (fun q1 => br_c (fun q2 => h1 ⟨q0, q1, q2⟩) (fun q2 => h0 (fun g => q2 g.2.2))) (fun q1 => h0 (fun g => q1 g.2.1))) (fun q0 => h0 (fun g => q0 g.1))
/-! the reference's even -/
theorem os_yev0 {post : Int32 → Prop} {x1 x2 x3 : Int32} {a m : Nat → Int32} (hp : post 0) : ∀ d i : Nat, i + d = 512 → wY_even_6 post x1 x2 x3 a m (d + 1) 0 (nI i) := by
  intro d
  induction d with
  | zero => intro i hi; exact br_t (os_ge hi) ⟨rfl, hp⟩
  | succ d ih =>
    intro i hi
    exact br_f (os_lt (by omega)) (br_t rfl (nm_r (nI_1 i) (ih (i + 1) (by omega))))
theorem os_yev (a m : Nat → Int32) {r c k : Nat} (hr : r < 4) (hc : c < 512) (hk : k < 4) (post : Int32 → Prop) : ∀ d i : Nat, i + d = 512 → (os_Al (fun e => os_tg (2 ^ k) c e → a (512 * r + e) = a (512 * r + c)) i 512 → post 1) → (¬ os_Al (fun e => os_tg (2 ^ k) c e → a (512 * r + e) = a (512 * r + c)) i 512 → post 0) → wY_even_6 post (nI r) (nI c) (nI k) a m (d + 1) 1 (nI i) := by
  intro d
  induction d with
  | zero => intro i hi h1 h0; exact br_t (os_ge hi) ⟨rfl, h1 (os_al_0 (by omega))⟩
  | succ d ih =>
    intro i hi h1 h0
    have h5 : i < 512 := by omega
    refine br_f (os_lt h5) (br_f os_10 (os_ytg hc h5 hk (fun g => br_f os_10 ⟨os_yv hr h5, os_yv hr hc, ?_⟩) (fun g => br_t rfl (nm_r (nI_1 i) (ih (i + 1) (by omega) (fun w => h1 (os_al_s (fun y => absurd y g) w)) (fun w => h0 (os_al_n w)))))))
    rw [os_yi hr h5, os_yi hr hc]
    exact br_c (fun z => nm_r (nI_1 i) (ih (i + 1) (by omega) (fun w => h1 (os_al_s (fun _ => z) w)) (fun w => h0 (os_al_n w)))) (fun z => nm_r (nI_1 i) (os_yev0 (h0 (os_al_f h5 (fun w => z (w g)))) d (i + 1) (by omega)))
/-! the class's isEven -/
theorem os_xev (a : Nat → Int32) {r q k : Nat} (hr : r < 4) (hk : k < 4) (hq : q + os_S k ≤ 511) (w : Int32) (post : Int32 → Prop) : ∀ d i : Nat, i + d = os_S k + 1 → (os_Al (fun p => os_sb k p → a (512 * r + q + p) = w) i (os_S k + 1) → post 1) → (¬ os_Al (fun p => os_sb k p → a (512 * r + q + p) = w) i (os_S k + 1) → post 0) → wX_isEven_13 post (nI (512 * r)) (nI q) (nI (os_S k)) w a (d + 1) (nI i) := by
  intro d
  induction d with
  | zero => intro i hi h1 h0; exact br_t (nI_lt (by omega) (by omega)) (h1 (os_al_0 (by omega)))
  | succ d ih =>
    intro i hi h1 h0
    have h5 : i < os_S k + 1 := by omega
    refine br_f (nI_nlt (by omega) (by omega)) (br_c (fun g => ?_) (fun g => nm_r (nI_1 i) (ih (i + 1) (by omega) (fun y => h1 (os_al_s (fun x => absurd x g) y)) (fun y => h0 (os_al_n y)))))
    rw [nI_add, nI_add]
    refine ⟨vp_in_nI (by omega) (by decide), ?_⟩
    rw [nI_clamp (by omega)]
    exact br_c (fun z => nm_r (nI_1 i) (ih (i + 1) (by omega) (fun y => h1 (os_al_s (fun _ => z) y)) (fun y => h0 (os_al_n y)))) (fun z => h0 (os_al_f h5 (fun y => z (y g))))
/-! the two sets of cells are one -/
theorem os_F1 {K c p : Nat} (hK : K = 1 ∨ K = 2 ∨ K = 4 ∨ K = 8) (hc : c < 512) (hp : p < 512) (d0 : p % 8 < K) (d1 : p / 8 % 8 < K) (d2 : p / 64 % 8 < K) : os_cr K c + p < 512 ∧ os_tg K c (os_cr K c + p) := by
  unfold os_tg os_cr
  rcases hK with rfl | rfl | rfl | rfl <;> omega
theorem os_dg {x y z : Nat} (hx : x < 8) (hy : y < 8) (hz : z < 8) : (x + 8 * y + 64 * z) % 8 = x ∧ (x + 8 * y + 64 * z) / 8 % 8 = y ∧ (x + 8 * y + 64 * z) / 64 % 8 = z := by omega
theorem os_mk {K x : Nat} (hK : K = 1 ∨ K = 2 ∨ K = 4 ∨ K = 8) : x % K < K ∧ x % K ≤ x ∧ x = x / K * K + x % K := by
  rcases hK with rfl | rfl | rfl | rfl <;> omega
theorem os_F2 {K c e : Nat} (hK : K = 1 ∨ K = 2 ∨ K = 4 ∨ K = 8) (hc : c < 512) (he : e < 512) (h : os_tg K c e) : ∃ p, p < 73 * (K - 1) + 1 ∧ p % 8 < K ∧ p / 8 % 8 < K ∧ p / 64 % 8 < K ∧ e = os_cr K c + p := by
  obtain ⟨h0, h1, h2⟩ := h
  refine ⟨e % 8 % K + 8 * (e / 8 % 8 % K) + 64 * (e / 64 % 8 % K), ?_⟩
  unfold os_cr
  rw [h0, h1, h2]
  have hx : e = e % 8 + 8 * (e / 8 % 8) + 64 * (e / 64 % 8) := by omega
  have bx : e % 8 < 8 := by omega
  have byy : e / 8 % 8 < 8 := by omega
  have bz : e / 64 % 8 < 8 := by omega
  generalize e % 8 = x at hx bx ⊢
  generalize e / 8 % 8 = y at hx byy ⊢
  generalize e / 64 % 8 = z at hx bz ⊢
  obtain ⟨x1, x2, x3⟩ := os_mk (x := x) hK
  obtain ⟨y1, y2, y3⟩ := os_mk (x := y) hK
  obtain ⟨z1, z2, z3⟩ := os_mk (x := z) hK
  obtain ⟨g0, g1, g2⟩ := os_dg (x := x % K) (y := y % K) (z := z % K) (by omega) (by omega) (by omega)
  rw [g0, g1, g2]
  refine ⟨by omega, x1, y1, z1, ?_⟩
  generalize x / K * K = xx at x3 ⊢
  generalize y / K * K = yy at y3 ⊢
  generalize z / K * K = zz at z3 ⊢
  omega
theorem os_F3 {K c : Nat} (hK : K = 1 ∨ K = 2 ∨ K = 4 ∨ K = 8) (hc : c < 512) : os_cr K c + 73 * (K - 1) ≤ 511 := by
  unfold os_cr
  rcases hK with rfl | rfl | rfl | rfl <;> omega
theorem os_eveq (a : Nat → Int32) (B : Nat) {c k : Nat} (hc : c < 512) (hk : k < 4) : os_Al (fun e => os_tg (2 ^ k) c e → a (B + e) = a (B + c)) 0 512 ↔ os_Al (fun p => os_sb k p → a (B + os_cr (2 ^ k) c + p) = a (B + os_cr (2 ^ k) c)) 0 (os_S k + 1) := by
  have hS := os_S5 k hk
  have hK := os_K k hk
  constructor
  · intro h p _ hp
    intro hs
    obtain ⟨d0, d1, d2⟩ := (os_sbT k hk p (by omega)).mp hs
    obtain ⟨f1, f2⟩ := os_F1 hK hc (by omega) d0 d1 d2
    obtain ⟨g1, g2⟩ := os_F1 (p := 0) hK hc (by omega) (by omega) (by omega) (by omega)
    have e1 := h _ (Nat.zero_le _) f1 f2
    have e2 := h _ (Nat.zero_le _) g1 g2
    rw [← Nat.add_assoc] at e1
    rw [Nat.add_zero] at e2
    rw [e1, e2]
  · intro h e _ he
    intro ht
    obtain ⟨p, p1, p2, p3, p4, p5⟩ := os_F2 hK hc he ht
    obtain ⟨q, q1, q2, q3, q4, q5⟩ := os_F2 hK hc hc (e := c) ⟨rfl, rfl, rfl⟩
    have p1' : p < os_S k + 1 := p1
    have q1' : q < os_S k + 1 := q1
    have e1 := h p (Nat.zero_le _) p1' ((os_sbT k hk p (by omega)).mpr ⟨p2, p3, p4⟩)
    have e2 := h q (Nat.zero_le _) q1' ((os_sbT k hk q (by omega)).mpr ⟨q2, q3, q4⟩)
    have e3 : B + e = B + os_cr (2 ^ k) c + p := by omega
    have e4 : B + c = B + os_cr (2 ^ k) c + q := by omega
    rw [e3, e1, e4, e2]
/-! order and cubes -/
theorem os_xl1 (a : Nat → Int32) {r c j : Nat} (hr : r < 4) (hc : c < 512) (hj : j < 3) (n : Nat) (post : Int32 → Prop) (h1 : os_Al (fun e => os_tg (2 ^ (j + 1)) c e → a (512 * r + e) = a (512 * r + c)) 0 512 → post (nI (j + 1))) (h0 : ¬ os_Al (fun e => os_tg (2 ^ (j + 1)) c e → a (512 * r + e) = a (512 * r + c)) 0 512 → wX_largestEven_2 post (nI (512 * r)) (nI c) a n (nI j)) : wX_largestEven_2 post (nI (512 * r)) (nI c) a (n + 1) (nI (j + 1)) := by
  have hk : j + 1 < 4 := by omega
  have hS := os_S5 (j + 1) hk
  have hq : os_cr (2 ^ (j + 1)) c + os_S (j + 1) ≤ 511 := os_F3 (os_K _ hk) hc
  rw [os_eveq a (512 * r) hc hk] at h1 h0
  refine br_f (nI_nle (by omega) (by omega)) (os_xpb hk ?_)
  rw [os_crT (j + 1) hk c hc]
  unfold wpX_isEven
  rw [nI_add, nI_clamp (by omega)]
  refine ⟨vp_in_nI (by omega) (by decide), nm_e ⟨_, os_xev a hr hk hq _ _ (os_S (j + 1) + 1) 0 (by omega) (fun g => br_f os_10 (h1 g)) (fun g => br_t rfl (nm_r (pk_m1 j) (h0 g)))⟩⟩
theorem os_yl1 (a m : Nat → Int32) {r c j : Nat} (hr : r < 4) (hc : c < 512) (hj : j < 3) (n : Nat) (post : Int32 → Prop) (h1 : os_Al (fun e => os_tg (2 ^ (j + 1)) c e → a (512 * r + e) = a (512 * r + c)) 0 512 → post (nI (j + 1))) (h0 : ¬ os_Al (fun e => os_tg (2 ^ (j + 1)) c e → a (512 * r + e) = a (512 * r + c)) 0 512 → wY_order_20 post (nI r) (nI c) a m n (nI j)) : wY_order_20 post (nI r) (nI c) a m (n + 1) (nI (j + 1)) := by
  have hk : j + 1 < 4 := by omega
  refine br_f (nI_nle (by omega) (by omega)) ?_
  unfold wpY_even
  dsimp only
  exact ⟨_, os_yev a m hr hc hk _ 512 0 rfl (fun g => br_f os_10 (h1 g)) (fun g => br_t rfl (nm_r (pk_m1 j) (h0 g)))⟩
theorem os_lev (a m : Nat → Int32) {r c : Nat} (hr : r < 4) (hc : c < 512) : ∃ q, q < 4 ∧ (∀ post : Int32 → Prop, post (nI q) → wX_largestEven_2 post (nI (512 * r)) (nI c) a 4 (nI 3)) ∧ (∀ post : Int32 → Prop, post (nI q) → wY_order_20 post (nI r) (nI c) a m 4 (nI 3)) := by
  by_cases E3 : os_Al (fun e => os_tg (2 ^ (2 + 1)) c e → a (512 * r + e) = a (512 * r + c)) 0 512
  · exact ⟨3, by decide, fun post hp => os_xl1 a (j := 2) hr hc (by decide) 3 post (fun _ => hp) (fun n => absurd E3 n), fun post hp => os_yl1 a m (j := 2) hr hc (by decide) 3 post (fun _ => hp) (fun n => absurd E3 n)⟩
  · by_cases E2 : os_Al (fun e => os_tg (2 ^ (1 + 1)) c e → a (512 * r + e) = a (512 * r + c)) 0 512
    · exact ⟨2, by decide, fun post hp => os_xl1 a (j := 2) hr hc (by decide) 3 post (fun y => absurd y E3) (fun _ => os_xl1 a (j := 1) hr hc (by decide) 2 post (fun _ => hp) (fun n => absurd E2 n)), fun post hp => os_yl1 a m (j := 2) hr hc (by decide) 3 post (fun y => absurd y E3) (fun _ => os_yl1 a m (j := 1) hr hc (by decide) 2 post (fun _ => hp) (fun n => absurd E2 n))⟩
    · by_cases E1 : os_Al (fun e => os_tg (2 ^ (0 + 1)) c e → a (512 * r + e) = a (512 * r + c)) 0 512
      · exact ⟨1, by decide, fun post hp => os_xl1 a (j := 2) hr hc (by decide) 3 post (fun y => absurd y E3) (fun _ => os_xl1 a (j := 1) hr hc (by decide) 2 post (fun y => absurd y E2) (fun _ => os_xl1 a (j := 0) hr hc (by decide) 1 post (fun _ => hp) (fun n => absurd E1 n))), fun post hp => os_yl1 a m (j := 2) hr hc (by decide) 3 post (fun y => absurd y E3) (fun _ => os_yl1 a m (j := 1) hr hc (by decide) 2 post (fun y => absurd y E2) (fun _ => os_yl1 a m (j := 0) hr hc (by decide) 1 post (fun _ => hp) (fun n => absurd E1 n)))⟩
      · exact ⟨0, by decide, fun post hp => os_xl1 a (j := 2) hr hc (by decide) 3 post (fun y => absurd y E3) (fun _ => os_xl1 a (j := 1) hr hc (by decide) 2 post (fun y => absurd y E2) (fun _ => os_xl1 a (j := 0) hr hc (by decide) 1 post (fun y => absurd y E1) (fun _ => br_t (by decide) hp))), fun post hp => os_yl1 a m (j := 2) hr hc (by decide) 3 post (fun y => absurd y E3) (fun _ => os_yl1 a m (j := 1) hr hc (by decide) 2 post (fun y => absurd y E2) (fun _ => os_yl1 a m (j := 0) hr hc (by decide) 1 post (fun y => absurd y E1) (fun _ => br_t (by decide) hp)))⟩
theorem os_ord (a m : Nat → Int32) {r c : Nat} (hr : r < 4) (hc : c < 512) : ∃ q, q < 4 ∧ (∀ post : Int32 → Prop, post (nI q) → wpX_largestEven post a (nI (512 * r)) (nI c)) ∧ (∀ post : Int32 → Prop, post (nI q) → wpY_order post (a, m) (nI r) (nI c)) := by
  obtain ⟨q, hq, hX, hY⟩ := os_lev a m hr hc
  refine ⟨q, hq, fun post hp => ⟨4, hX post hp⟩, fun post hp => ?_⟩
  unfold wpY_order
  dsimp only
  exact os_ys hr (br_f os_10 (os_yc hc (br_f os_10 ⟨4, hY post hp⟩)))
theorem i_vc_order {k : Nat} {u : SX} {v : SY} (I : i_Rel k u v) (hk : k + 5 ≤ 2560) (v1 : Int32) (v2 : Int32) : wpX_order (fun r => wpY_order (fun r' => r' = r ∧ i_Rel (k + 5) u v) v v1 v2) u v1 v2 := by
  have J : i_Rel (k + 5) u v := I
  obtain ⟨m, rfl, hB⟩ := os_I I
  rcases os_sol v1 with ⟨r, hr, rfl⟩ | ⟨hx, hy⟩
  · rcases os_cel v2 with ⟨c, hc, rfl⟩ | ⟨hx, hy⟩
    · obtain ⟨q, hq, hX, hY⟩ := os_ord u m hr hc
      unfold wpX_order
      refine os_xs hr (br_f os_10 (os_xc hc (br_f os_10 ?_)))
      rw [os_bx]
      exact hX _ (hY _ ⟨rfl, J⟩)
    · unfold wpX_order wpY_order
      dsimp only
      exact os_xs hr (br_f os_10 (hx _ (br_t rfl (os_ys hr (br_f os_10 (hy _ _ _ (br_t rfl ⟨rfl, J⟩)))))))
  · unfold wpX_order wpY_order
    dsimp only
    exact hx _ (br_t rfl (hy _ _ _ (br_t rfl ⟨rfl, J⟩)))
theorem os_cub (a m : Nat → Int32) (r : Nat) (hr : r < 4) : ∀ d i : Nat, i + d = 512 → ∀ c : Int32, ∃ q : Int32, (∀ post : Int32 → Prop, post q → wX_cubes_20 post (nI (512 * r)) a (d + 1) c (nI i)) ∧ (∀ post : Int32 → Prop, post q → wY_cubes_4 post (nI r) a m (d + 1) c (nI i)) := by
  intro d
  induction d with
  | zero =>
    intro i hi c
    exact ⟨c, fun _ hp => br_t (os_ge hi) hp, fun _ hp => br_t (os_ge hi) (os_ys hr (br_f os_10 hp))⟩
  | succ d ih =>
    intro i hi c
    have h5 : i < 512 := by omega
    obtain ⟨k, hk, oX, oY⟩ := os_ord a m hr h5
    by_cases z : (nI i &&& nI (os_S k)) = 0
    · obtain ⟨q, hX, hY⟩ := ih (i + 1) (by omega) (c + 1)
      exact ⟨q, fun post hp => br_f (os_lt h5) (oX _ (os_xpb hk (br_t z (nm_e (nm_r (nI_1 i) (hX post hp)))))), fun post hp => br_f (os_lt h5) (os_ys hr (br_f os_10 (oY _ (os_ycn h5 hk (fun _ => br_f os_10 (nm_e (nm_r (nI_1 i) (hY post hp)))) (fun n => absurd z n)))))⟩
    · obtain ⟨q, hX, hY⟩ := ih (i + 1) (by omega) c
      exact ⟨q, fun post hp => br_f (os_lt h5) (oX _ (os_xpb hk (br_f z (nm_r (nI_1 i) (hX post hp))))), fun post hp => br_f (os_lt h5) (os_ys hr (br_f os_10 (oY _ (os_ycn h5 hk (fun y => absurd y z) (fun _ => br_t rfl (nm_r (nI_1 i) (hY post hp)))))))⟩
theorem i_vc_cubes {k : Nat} {u : SX} {v : SY} (I : i_Rel k u v) (hk : k + 5 ≤ 2560) (v1 : Int32) : wpX_cubes (fun r => wpY_cubes (fun r' => r' = r ∧ i_Rel (k + 5) u v) v v1) u v1 := by
  have J : i_Rel (k + 5) u v := I
  obtain ⟨m, rfl, hB⟩ := os_I I
  unfold wpX_cubes wpY_cubes
  dsimp only
  rcases os_sol v1 with ⟨r, hr, rfl⟩ | ⟨hx, hy⟩
  · obtain ⟨q, hX, hY⟩ := os_cub u m r hr 512 0 rfl 0
    exact os_xs hr (br_f os_10 (nm_r (os_bx r) ⟨_, hX _ ⟨_, hY _ ⟨rfl, J⟩⟩⟩))
  · exact hx _ (br_t rfl ⟨1, br_f (by decide) (hy _ _ _ (br_t rfl (hy _ _ _ (br_t rfl ⟨rfl, J⟩))))⟩)
