/-! kinds -/
def os_at (k e : Nat) : Nat := e % 2 ^ k + 8 * (e / 2 ^ k % 2 ^ k) + 64 * (e / 4 ^ k)
theorem os_k8 : ∀ k, k < 4 → (1 : Int32) <<< ((3 * nI k) &&& 31) = nI (8 ^ k) := by decide +kernel
theorem os_k9 : ∀ k, k < 4 → 8 ^ k ≤ 512 := by decide
theorem os_atI : ∀ k, k < 4 → ∀ e, e < 512 → ((nI e &&& nI (2 ^ k - 1)) + (8 * ((nI e >>> (nI k &&& 31)) &&& nI (2 ^ k - 1)))) + (64 * (nI e >>> ((2 * nI k) &&& 31))) = nI (os_at k e) := by decide +kernel
theorem os_atD : ∀ k, k < 4 → ∀ e, e < 512 → e < 8 ^ k → os_at k e < os_S k + 1 ∧ os_at k e % 8 < 2 ^ k ∧ os_at k e / 8 % 8 < 2 ^ k ∧ os_at k e / 64 % 8 < 2 ^ k := by decide +kernel
theorem os_atS : ∀ k, k < 4 → ∀ p, p < 512 → (p % 8 < 2 ^ k ∧ p / 8 % 8 < 2 ^ k ∧ p / 64 % 8 < 2 ^ k) → (p % 8 + 2 ^ k * (p / 8 % 8) + 4 ^ k * (p / 64 % 8) < 8 ^ k ∧ os_at k (p % 8 + 2 ^ k * (p / 8 % 8) + 4 ^ k * (p / 64 % 8)) = p) := by decide +kernel
theorem os_cnS : ∀ k, k < 4 → ∀ c, c < 512 → (nI c &&& nI (os_S k)) = 0 → c + os_S k ≤ 511 := by decide +kernel
theorem os_xal (a : Nat → Int32) {A C k : Nat} (hk : k < 4) (hA : A + os_S k < 2048) (hC : C + os_S k < 2048) (post : Int32 → Prop) : ∀ d i : Nat, i + d = os_S k + 1 → (os_Al (fun p => os_sb k p → a (A + p) = a (C + p)) i (os_S k + 1) → post 1) → (¬ os_Al (fun p => os_sb k p → a (A + p) = a (C + p)) i (os_S k + 1) → post 0) → wX_isAlike_3 post (nI A) (nI C) (nI (os_S k)) a (d + 1) (nI i) := by
  intro d
  induction d with
  | zero => intro i hi h1 h0; exact br_t (nI_lt (by omega) (by omega)) (h1 (os_al_0 (by omega)))
  | succ d ih =>
    intro i hi h1 h0
    have h5 : i < os_S k + 1 := by omega
    refine br_f (nI_nlt (by omega) (by omega)) (br_c (fun g => ?_) (fun g => nm_r (nI_1 i) (ih (i + 1) (by omega) (fun y => h1 (os_al_s (fun x => absurd x g) y)) (fun y => h0 (os_al_n y)))))
    rw [nI_add A i, nI_add C i]
    refine ⟨vp_in_nI (by omega) (by decide), vp_in_nI (by omega) (by decide), ?_⟩
    rw [nI_clamp (n := A + i) (by omega), nI_clamp (n := C + i) (by omega)]
    exact br_c (fun z => nm_r (nI_1 i) (ih (i + 1) (by omega) (fun y => h1 (os_al_s (fun _ => z) y)) (fun y => h0 (os_al_n y)))) (fun z => h0 (os_al_f h5 (fun y => z (y g))))
theorem os_yal0 {post : Int32 → Prop} {x1 x2 x3 : Int32} {a m : Nat → Int32} {k : Nat} (hk : k < 4) (hp : post 0) : ∀ d i : Nat, i + d = 8 ^ k → wY_alike_6 post x1 x2 x3 (nI k) a m (d + 1) 0 (nI i) := by
  have h9 := os_k9 k hk
  intro d
  induction d with
  | zero =>
    intro i hi
    exact br_t (by rw [os_k8 k hk]; exact nI_le (by omega) (by omega)) ⟨rfl, hp⟩
  | succ d ih =>
    intro i hi
    exact br_f (by rw [os_k8 k hk]; exact nI_ge (by omega) (by omega)) (nm_e (nm_e (br_t rfl (nm_r (nI_1 i) (ih (i + 1) (by omega))))))
theorem os_yal (a m : Nat → Int32) {r c e k : Nat} (hr : r < 4) (hk : k < 4) (hc : c + os_S k ≤ 511) (he : e + os_S k ≤ 511) (post : Int32 → Prop) : ∀ d i : Nat, i + d = 8 ^ k → (os_Al (fun p => a (512 * r + c + os_at k p) = a (512 * r + e + os_at k p)) i (8 ^ k) → post 1) → (¬ os_Al (fun p => a (512 * r + c + os_at k p) = a (512 * r + e + os_at k p)) i (8 ^ k) → post 0) → wY_alike_6 post (nI r) (nI c) (nI e) (nI k) a m (d + 1) 1 (nI i) := by
  have h9 := os_k9 k hk
  intro d
  induction d with
  | zero =>
    intro i hi h1 h0
    exact br_t (by rw [os_k8 k hk]; exact nI_le (by omega) (by omega)) ⟨rfl, h1 (os_al_0 (by omega))⟩
  | succ d ih =>
    intro i hi h1 h0
    have h5 : i < 8 ^ k := by omega
    obtain ⟨t1, _, _, _⟩ := os_atD k hk i (by omega) h5
    refine br_f (by rw [os_k8 k hk]; exact nI_ge (by omega) (by omega)) (nm_r (os_lw k hk) (nm_r (os_atI k hk i (by omega)) (br_f os_10 ?_)))
    rw [os_by, nI_add (512 * r) c, nI_add (512 * r) e, nI_add (512 * r + c), nI_add (512 * r + e)]
    refine ⟨vp_in_nI (by omega) (by decide), vp_in_nI (by omega) (by decide), ?_⟩
    rw [nI_clamp (n := 512 * r + c + os_at k i) (by omega), nI_clamp (n := 512 * r + e + os_at k i) (by omega)]
    exact br_c (fun z => nm_r (nI_1 i) (ih (i + 1) (by omega) (fun y => h1 (os_al_s z y)) (fun y => h0 (os_al_n y)))) (fun z => nm_r (nI_1 i) (os_yal0 hk (h0 (os_al_f h5 z)) d (i + 1) (by omega)))
theorem os_aleq (a : Nat → Int32) {A C k : Nat} (hk : k < 4) : os_Al (fun p => os_sb k p → a (A + p) = a (C + p)) 0 (os_S k + 1) ↔ os_Al (fun p => a (C + os_at k p) = a (A + os_at k p)) 0 (8 ^ k) := by
  have hS := os_S5 k hk
  have h9 := os_k9 k hk
  constructor
  · intro h e _ he
    obtain ⟨t1, t2, t3, t4⟩ := os_atD k hk e (by omega) he
    exact (h (os_at k e) (Nat.zero_le _) t1 ((os_sbT k hk _ (by omega)).mpr ⟨t2, t3, t4⟩)).symm
  · intro h p _ hp hs
    obtain ⟨g1, g2⟩ := os_atS k hk p (by omega) ((os_sbT k hk p (by omega)).mp hs)
    have w := h _ (Nat.zero_le _) g1
    dsimp only at w
    rw [g2] at w
    exact w.symm
def os_Q (a : Nat → Int32) (r c k : Nat) (e : Nat) : Prop := ¬ ((nI e &&& nI (os_S k)) = 0 ∧ os_Al (fun p => os_sb k p → a (512 * r + e + p) = a (512 * r + c + p)) 0 (os_S k + 1))
theorem os_xnk (a : Nat → Int32) {r c k : Nat} (hr : r < 4) (hc : c < 512) (hk : k < 4) (hn : (nI c &&& nI (os_S k)) = 0) (post : Int32 → Prop) : ∀ t i : Nat, i + t = c → (os_Al (os_Q a r c k) i c → post 1) → (¬ os_Al (os_Q a r c k) i c → post 0) → wX_isNewKind_3 post (nI (512 * r)) (nI c) (nI (os_S k)) a (t + 1) (nI i) := by
  have hS := os_cnS k hk c hc hn
  intro t
  induction t with
  | zero => intro i hi h1 h0; exact br_t (nI_le (by omega) (by omega)) (h1 (os_al_0 (by omega)))
  | succ t ih =>
    intro i hi h1 h0
    have h5 : i < c := by omega
    refine br_f (nI_ge h5 (by omega)) (br_c (fun g => ?_) (fun g => nm_r (nI_1 i) (ih (i + 1) (by omega) (fun y => h1 (os_al_s (fun x => g x.1) y)) (fun y => h0 (os_al_n y)))))
    have hS2 := os_cnS k hk i (by omega) g
    rw [nI_add (512 * r) i, nI_add (512 * r) c]
    exact ⟨_, os_xal a hk (by omega) (by omega) _ (os_S k + 1) 0 (by omega) (fun w => br_f os_10 (h0 (os_al_f h5 (fun x => x ⟨g, w⟩)))) (fun w => br_t rfl (nm_r (nI_1 i) (ih (i + 1) (by omega) (fun y => h1 (os_al_s (fun x => w x.2) y)) (fun y => h0 (os_al_n y)))))⟩
theorem os_y440 {post : Int32 → Prop} {J : Int32 → Int32 → Prop} {x1 x2 x3 x6 : Int32} {a m : Nat → Int32} {c : Nat} (n : Nat) (h : J x3 (nI (c + 1))) : wY_kinds_44 post J x1 x2 x3 (nI c) a m (n + 1) 0 x6 :=
  br_c (fun _ => br_t rfl (nm_r (nI_1 c) h)) (fun _ => br_t rfl (br_t rfl (nm_r (nI_1 c) h)))
theorem os_y44 (a m : Nat → Int32) {r c k : Nat} (hr : r < 4) (hc : c < 512) (hk : k < 4) (hn : (nI c &&& nI (os_S k)) = 0) (post : Int32 → Prop) (J : Int32 → Int32 → Prop) (x3 : Int32) : ∀ t i : Nat, i + t = c → (os_Al (os_Q a r c k) i c → J (x3 + 1) (nI (c + 1))) → (¬ os_Al (os_Q a r c k) i c → J x3 (nI (c + 1))) → wY_kinds_44 post J (nI r) (nI k) x3 (nI c) a m (t + 1) 1 (nI i) := by
  have hS := os_cnS k hk c hc hn
  intro t
  induction t with
  | zero => intro i hi h1 h0; exact br_t (nI_le (by omega) (by omega)) (br_f os_10 (nm_e (nm_r (nI_1 c) (h1 (os_al_0 (by omega))))))
  | succ t ih =>
    intro i hi h1 h0
    have h5 : i < c := by omega
    refine br_f (nI_ge h5 (by omega)) (br_f os_10 (os_ycn (by omega) hk (fun g => br_f os_10 ?_) (fun g => br_t rfl (nm_r (nI_1 i) (ih (i + 1) (by omega) (fun y => h1 (os_al_s (fun x => g x.1) y)) (fun y => h0 (os_al_n y)))))))
    have hS2 := os_cnS k hk i (by omega) g
    unfold wpY_alike
    dsimp only
    refine ⟨_, os_yal a m hr hk hS hS2 _ (8 ^ k) 0 (by omega) (fun w => br_f os_10 (nm_e (os_y440 t (h0 (os_al_f h5 (fun x => x ⟨g, (os_aleq a hk).mpr w⟩)))))) (fun w => br_t rfl (nm_r (nI_1 i) (ih (i + 1) (by omega) (fun y => h1 (os_al_s (fun x => w ((os_aleq a hk).mp x.2)) y)) (fun y => h0 (os_al_n y)))))⟩
theorem os_knd (a m : Nat → Int32) (r k : Nat) (hr : r < 4) (hk : k < 4) : ∀ d i : Nat, i + d = 512 → ∀ c : Int32, ∃ q : Int32, (∀ post : Int32 → Prop, post q → wX_kinds_36 post (nI (512 * r)) (nI (os_S k)) a (d + 1) c (nI i)) ∧ (∀ post : Int32 → Prop, post q → wY_kinds_24 post (nI r) (nI k) a m (d + 1) c (nI i)) := by
  intro d
  induction d with
  | zero =>
    intro i hi c
    exact ⟨c, fun _ hp => br_t (os_ge hi) hp, fun _ hp => br_t (os_ge hi) hp⟩
  | succ d ih =>
    intro i hi c
    have h5 : i < 512 := by omega
    by_cases z : (nI i &&& nI (os_S k)) = 0
    · by_cases N : os_Al (os_Q a r i k) 0 i
      · obtain ⟨q, hX, hY⟩ := ih (i + 1) (by omega) (c + 1)
        exact ⟨q, fun post hp => br_f (os_lt h5) (br_t z ⟨_, os_xnk a hr h5 hk z _ i 0 (by omega) (fun _ => br_f os_10 (nm_e (nm_r (nI_1 i) (hX post hp)))) (fun n => absurd N n)⟩), fun post hp => br_f (os_lt h5) (os_ycn h5 hk (fun _ => ⟨_, os_y44 a m hr h5 hk z post _ c i 0 (by omega) (fun _ => hY post hp) (fun n => absurd N n)⟩) (fun n => absurd z n))⟩
      · obtain ⟨q, hX, hY⟩ := ih (i + 1) (by omega) c
        exact ⟨q, fun post hp => br_f (os_lt h5) (br_t z ⟨_, os_xnk a hr h5 hk z _ i 0 (by omega) (fun y => absurd y N) (fun _ => br_t rfl (nm_r (nI_1 i) (hX post hp)))⟩), fun post hp => br_f (os_lt h5) (os_ycn h5 hk (fun _ => ⟨_, os_y44 a m hr h5 hk z post _ c i 0 (by omega) (fun y => absurd y N) (fun _ => hY post hp)⟩) (fun n => absurd z n))⟩
    · obtain ⟨q, hX, hY⟩ := ih (i + 1) (by omega) c
      exact ⟨q, fun post hp => br_f (os_lt h5) (br_f z (nm_r (nI_1 i) (hX post hp))), fun post hp => br_f (os_lt h5) (os_ycn h5 hk (fun y => absurd y z) (fun _ => ⟨1, os_y440 0 (hY post hp)⟩))⟩
theorem i_vc_kinds {k : Nat} {u : SX} {v : SY} (I : i_Rel k u v) (hk : k + 5 ≤ 2560) (v1 : Int32) (v2 : Int32) : wpX_kinds (fun r => wpY_kinds (fun r' => r' = r ∧ i_Rel (k + 5) u v) v v1 v2) u v1 v2 := by
  have J : i_Rel (k + 5) u v := I
  obtain ⟨m, rfl, hB⟩ := os_I I
  unfold wpX_kinds wpY_kinds
  dsimp only
  rcases os_sol v1 with ⟨r, hr, rfl⟩ | ⟨hx, hy⟩
  · refine os_xs hr (br_f os_10 ?_)
    by_cases h0 : v2 < 0
    · exact br_t h0 (os_ys hr (br_f os_10 (br_t h0 ⟨rfl, J⟩)))
    · obtain ⟨j, hj, rfl⟩ := nI_of h0
      by_cases h3 : j < 4
      · obtain ⟨q, hX, hY⟩ := os_knd u m r j hr h3 512 0 rfl 0
        have l3 : nI j ≤ 3 := nI_le (b := 3) (by omega) (by decide)
        exact br_f h0 (br_t l3 (nm_r (os_bx r) (os_xpb h3 ⟨_, hX _ (os_ys hr (br_f os_10 (br_f h0 (br_t l3 ⟨_, hY _ ⟨rfl, J⟩⟩))))⟩)))
      · have l3 : ¬ nI j ≤ 3 := nI_ge (a := 3) (by omega) hj
        exact br_f h0 (br_f l3 (os_ys hr (br_f os_10 (br_f h0 (br_f l3 ⟨rfl, J⟩)))))
  · exact hx _ (br_t rfl (hy _ _ _ (br_t rfl ⟨rfl, J⟩)))
