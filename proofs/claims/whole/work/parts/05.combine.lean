/-! combine -/
def os_jn (op x y : Int32) : Int32 := if op = 0 then (if x = 0 then (if y = 0 then 0 else 1) else 1) else if op = 1 then (if x = 0 then 0 else (if y = 0 then 0 else 1)) else if op = 2 then (if x = 0 then 0 else (if y = 0 then 1 else 0)) else (if x = y then 0 else 1)
theorem os_jn01 (op x y : Int32) : os_jn op x y = 0 ∨ os_jn op x y = 1 := by
  unfold os_jn
  repeat' split
  all_goals first | exact Or.inl rfl | exact Or.inr rfl
theorem os_xj {post : Int32 → Prop} {op x y : Int32} (ho : ¬ op < 0) (h : post (os_jn op x y)) : wpX_joined post op x y := by
  have K0 : os_jn op x y = 0 → post 0 := fun e => by rw [← e]; exact h
  have K1 : os_jn op x y = 1 → post 1 := fun e => by rw [← e]; exact h
  refine br_f ho (br_c (fun h2 => ?_) (fun h2 => ?_))
  · have n0 : ¬ op = 0 := by rintro rfl; exact absurd h2 (by decide)
    have n1 : ¬ op = 1 := by rintro rfl; exact absurd h2 (by decide)
    have n2 : ¬ op = 2 := by rintro rfl; exact absurd h2 (by decide)
    exact br_c (fun e => K0 (by simp [os_jn, n0, n1, n2, e])) (fun e => K1 (by simp [os_jn, n0, n1, n2, e]))
  · refine br_c (fun n0 => ?_) (fun n0 => br_c (fun n1 => ?_) (fun n1 => br_c (fun n2 => ?_) (fun n2 => trivial)))
    · exact br_c (fun ex => br_c (fun ey => K0 (by simp [os_jn, n0, ex, ey])) (fun ey => K1 (by simp [os_jn, n0, ex, ey]))) (fun ex => K1 (by simp [os_jn, n0, ex]))
    · exact br_c (fun ex => K0 (by simp [os_jn, n1, ex])) (fun ex => br_c (fun ey => K0 (by simp [os_jn, n1, ex, ey])) (fun ey => K1 (by simp [os_jn, n1, ex, ey])))
    · exact br_c (fun ex => K0 (by simp [os_jn, n2, ex])) (fun ex => br_c (fun ey => K1 (by simp [os_jn, n2, ex, ey])) (fun ey => K0 (by simp [os_jn, n2, ex, ey])))
theorem os_xcmb (a : Nat → Int32) {r s t : Nat} (hr : r < 4) (hs : s < 4) (ht : t < 4) {op : Int32} (ho : ¬ op < 0) (post : Int32 → SX → Prop) (hp : post 1 (os_put a (512 * r) (fun e => os_jn op (a (512 * s + e)) (a (512 * t + e))) 512)) : ∀ d i : Nat, i + d = 512 → wX_combine_58 post op (nI (512 * r)) (nI (512 * s)) (nI (512 * t)) (d + 1) (nI i) (os_put a (512 * r) (fun e => os_jn op (a (512 * s + e)) (a (512 * t + e))) i) := by
  intro d
  induction d with
  | zero =>
    intro i hi
    have e : i = 512 := hi
    rw [e]
    exact br_t (os_ge rfl) hp
  | succ d ih =>
    intro i hi
    have h5 : i < 512 := by omega
    refine br_f (os_lt h5) ⟨os_xv hs h5, os_xv ht h5, ?_⟩
    rw [os_xi hs h5, os_xi ht h5, os_putO a _ (by omega), os_putO a _ (by omega)]
    refine os_xj ho ⟨os_xv hr h5, nm_r ?_ (nm_r (nI_1 i) (ih (i + 1) (by omega)))⟩
    rw [os_xi hr h5, os_n1 (os_jn01 _ _ _)]
    exact os_putS a (512 * r) (fun e => os_jn op (a (512 * s + e)) (a (512 * t + e))) i
theorem os_ycs (a m : Nat → Int32) {s t : Nat} (hs : s < 4) (ht : t < 4) {x1 op : Int32} (post : Int32 → SY → Prop) (n i : Nat) (h5 : i < 512) (h : wY_combine_39 post x1 op (nI s) (nI t) n (nI (i + 1)) a (upd m i (os_jn op (a (512 * s + i)) (a (512 * t + i))))) : wY_combine_39 post x1 op (nI s) (nI t) (n + 1) (nI i) a m := by
  refine br_f (os_lt h5) ⟨os_yv hs h5, nm_r (congrArg a (os_yi hs h5)) ⟨os_yv ht h5, nm_r (congrArg a (os_yi ht h5)) ?_⟩⟩
  have K0 : os_jn op (a (512 * s + i)) (a (512 * t + i)) = 0 → vp_in (nI i) 512 ∧ ∀ m' : Nat → Int32, m' = upd m (nI i).toNatClampNeg (vp_nar .boolean 0) → (∀ x : Int32, x = nI i + 1 → wY_combine_39 post x1 op (nI s) (nI t) n x a m') := by
    intro e
    rw [e] at h
    exact ⟨vp_in_nI h5 (by decide), nm_r (by rw [nI_clamp (by omega), os_n1 (Or.inl rfl)]) (nm_r (nI_1 i) h)⟩
  have K1 : os_jn op (a (512 * s + i)) (a (512 * t + i)) = 1 → vp_in (nI i) 512 ∧ ∀ m' : Nat → Int32, m' = upd m (nI i).toNatClampNeg (vp_nar .boolean 1) → (∀ x : Int32, x = nI i + 1 → wY_combine_39 post x1 op (nI s) (nI t) n x a m') := by
    intro e
    rw [e] at h
    exact ⟨vp_in_nI h5 (by decide), nm_r (by rw [nI_clamp (by omega), os_n1 (Or.inr rfl)]) (nm_r (nI_1 i) h)⟩
  refine br_c (fun n0 => ?_) (fun n0 => br_c (fun n1 => ?_) (fun n1 => br_c (fun n2 => ?_) (fun n2 => ?_)))
  · exact br_c (fun ex => br_c (fun ey => K0 (by simp [os_jn, n0, ex, ey])) (fun ey => K1 (by simp [os_jn, n0, ex, ey]))) (fun ex => K1 (by simp [os_jn, n0, ex]))
  · exact br_c (fun ex => K0 (by simp [os_jn, n1, ex])) (fun ex => br_c (fun ey => K0 (by simp [os_jn, n1, ex, ey])) (fun ey => K1 (by simp [os_jn, n1, ex, ey])))
  · exact br_c (fun ex => K0 (by simp [os_jn, n2, ex])) (fun ex => br_c (fun ey => K1 (by simp [os_jn, n2, ex, ey])) (fun ey => K0 (by simp [os_jn, n2, ex, ey])))
  · exact br_c (fun e => K0 (by simp [os_jn, n0, n1, n2, e])) (fun e => K1 (by simp [os_jn, n0, n1, n2, e]))
theorem os_ycmb (a m : Nat → Int32) {r s t : Nat} (hr : r < 4) (hs : s < 4) (ht : t < 4) {op : Int32} (post : Int32 → SY → Prop) (hp : post 1 (os_put a (512 * r) (fun e => os_jn op (a (512 * s + e)) (a (512 * t + e))) 512, os_put m 0 (fun e => os_jn op (a (512 * s + e)) (a (512 * t + e))) 512)) : ∀ d i : Nat, i + d = 512 → wY_combine_39 post (nI r) op (nI s) (nI t) (d + 1) (nI i) a (os_put m 0 (fun e => os_jn op (a (512 * s + e)) (a (512 * t + e))) i) := by
  intro d
  induction d with
  | zero =>
    intro i hi
    have e : i = 512 := hi
    rw [e]
    exact br_t (os_ge rfl) (os_keepw a m _ r hr (fun _ _ => os_jn01 _ _ _) _ hp)
  | succ d ih =>
    intro i hi
    have h5 : i < 512 := by omega
    refine os_ycs a _ hs ht post (d + 1) i h5 ?_
    have e := os_putS m 0 (fun e => os_jn op (a (512 * s + e)) (a (512 * t + e))) i
    rw [Nat.zero_add] at e
    rw [e]
    exact ih (i + 1) (by omega)
theorem i_vc_combine {k : Nat} {u : SX} {v : SY} (I : i_Rel k u v) (hk : k + 5 ≤ 2560) (v1 : Int32) (v2 : Int32) (v3 : Int32) (v4 : Int32) : wpX_combine (fun r u' => wpY_combine (fun r' v' => r' = r ∧ i_Rel (k + 5) u' v') v v1 v2 v3 v4) u v1 v2 v3 v4 := by
  have J : i_Rel (k + 5) u v := I
  obtain ⟨m, rfl, hB⟩ := os_I I
  unfold wpX_combine wpY_combine
  dsimp only
  rcases os_sol v1 with ⟨r, hr, rfl⟩ | ⟨hx, hy⟩
  · refine os_xs hr (br_f os_10 ?_)
    rcases os_sol v3 with ⟨s, hs, rfl⟩ | ⟨hx, hy⟩
    · refine os_xs hs (br_f os_10 ?_)
      rcases os_sol v4 with ⟨t, ht, rfl⟩ | ⟨hx, hy⟩
      · refine os_xs ht (br_f os_10 ?_)
        refine br_c (fun h => ?_) (fun h => br_c (fun h1 => ?_) (fun h1 => ?_))
        · exact os_ys hr (br_f os_10 (os_ys hs (br_f os_10 (os_ys ht (br_f os_10 (br_t h ⟨rfl, J⟩))))))
        · have h3 : v2 ≤ 3 := by
            rw [Int32.lt_iff_toInt_lt, show (4 : Int32).toInt = 4 from by decide] at h1
            rw [Int32.le_iff_toInt_le, show (3 : Int32).toInt = 3 from by decide]
            omega
          have hX := os_xcmb u hr hs ht h (fun r_1 u' => wpY_combine (fun r' v' => r' = r_1 ∧ i_Rel (k + 5) u' v') (u, m) (nI r) v2 (nI s) (nI t))
          unfold wpY_combine at hX
          dsimp only at hX
          refine nm_r (os_bx r) (nm_r (os_bx s) (nm_r (os_bx t) ⟨513, ?_⟩))
          have h0 := hX (os_ys hr (br_f os_10 (os_ys hs (br_f os_10 (os_ys ht (br_f os_10 (br_f h (br_t h3 ⟨513, ?_⟩)))))))) 512 0 rfl
          · rw [os_put0] at h0
            exact h0
          · have hY := os_ycmb u m hr hs ht (op := v2) (fun r' v' => r' = 1 ∧ i_Rel (k + 5) (os_put u (512 * r) (fun e => os_jn v2 (u (512 * s + e)) (u (512 * t + e))) 512) v') ⟨rfl, And.intro rfl (os_putB hB _ _ (fun _ _ => os_jn01 _ _ _))⟩ 512 0 rfl
            rw [os_put0] at hY
            exact hY
        · have h3 : ¬ v2 ≤ 3 := by
            rw [Int32.lt_iff_toInt_lt, show (4 : Int32).toInt = 4 from by decide] at h1
            rw [Int32.le_iff_toInt_le, show (3 : Int32).toInt = 3 from by decide]
            omega
          exact os_ys hr (br_f os_10 (os_ys hs (br_f os_10 (os_ys ht (br_f os_10 (br_f h (br_f h3 ⟨rfl, J⟩)))))))
      · exact hx _ (br_t rfl (os_ys hr (br_f os_10 (os_ys hs (br_f os_10 (hy _ _ _ (br_t rfl ⟨rfl, J⟩)))))))
    · exact hx _ (br_t rfl (os_ys hr (br_f os_10 (hy _ _ _ (br_t rfl ⟨rfl, J⟩)))))
  · exact hx _ (br_t rfl (hy _ _ _ (br_t rfl ⟨rfl, J⟩)))
/-! turn -/
def os_nt (x : Int32) : Int32 := if x = 0 then 1 else 0
theorem os_nt01 (x : Int32) : os_nt x = 0 ∨ os_nt x = 1 := by
  unfold os_nt
  split
  · exact Or.inr rfl
  · exact Or.inl rfl
theorem os_xtrn (a : Nat → Int32) {r s : Nat} (hr : r < 4) (hs : s < 4) (post : Int32 → SX → Prop) (hp : post 1 (os_put a (512 * r) (fun e => os_nt (a (512 * s + e))) 512)) : ∀ d i : Nat, i + d = 512 → wX_turn_32 post (nI (512 * r)) (nI (512 * s)) (d + 1) (nI i) (os_put a (512 * r) (fun e => os_nt (a (512 * s + e))) i) := by
  intro d
  induction d with
  | zero =>
    intro i hi
    have e : i = 512 := hi
    rw [e]
    exact br_t (os_ge rfl) hp
  | succ d ih =>
    intro i hi
    have h5 : i < 512 := by omega
    have e := os_putS a (512 * r) (fun e => os_nt (a (512 * s + e))) i
    refine br_f (os_lt h5) ⟨os_xv hs h5, ?_⟩
    rw [os_xi hs h5, os_putO a _ (show ¬ (512 * r ≤ 512 * s + i ∧ 512 * s + i < 512 * r + i) by omega)]
    refine br_c (fun z => ⟨os_xv hr h5, nm_r ?_ (nm_r (nI_1 i) (ih (i + 1) (by omega)))⟩) (fun z => ⟨os_xv hr h5, nm_r ?_ (nm_r (nI_1 i) (ih (i + 1) (by omega)))⟩)
    · rw [os_xi hr h5, os_n1 (Or.inr rfl), ← e]
      rw [os_nt, if_pos z]
    · rw [os_xi hr h5, os_n1 (Or.inl rfl), ← e]
      rw [os_nt, if_neg z]
theorem os_ytrn (a m : Nat → Int32) {r s : Nat} (hr : r < 4) (hs : s < 4) (post : Int32 → SY → Prop) (hp : post 1 (os_put a (512 * r) (fun e => os_nt (a (512 * s + e))) 512, os_put m 0 (fun e => os_nt (a (512 * s + e))) 512)) : ∀ d i : Nat, i + d = 512 → wY_turn_20 post (nI r) (nI s) (d + 1) (nI i) a (os_put m 0 (fun e => os_nt (a (512 * s + e))) i) := by
  intro d
  induction d with
  | zero =>
    intro i hi
    have e : i = 512 := hi
    rw [e]
    exact br_t (os_ge rfl) (os_keepw a m _ r hr (fun _ _ => os_nt01 _) _ hp)
  | succ d ih =>
    intro i hi
    have h5 : i < 512 := by omega
    have e := os_putS m 0 (fun e => os_nt (a (512 * s + e))) i
    rw [Nat.zero_add] at e
    refine br_f (os_lt h5) ⟨os_yv hs h5, ?_⟩
    rw [os_yi hs h5]
    refine br_c (fun z => ⟨vp_in_nI h5 (by decide), nm_r ?_ (nm_r (nI_1 i) (ih (i + 1) (by omega)))⟩) (fun z => ⟨vp_in_nI h5 (by decide), nm_r ?_ (nm_r (nI_1 i) (ih (i + 1) (by omega)))⟩)
    · rw [nI_clamp (by omega), os_n1 (Or.inr rfl), ← e]
      rw [os_nt, if_pos z]
    · rw [nI_clamp (by omega), os_n1 (Or.inl rfl), ← e]
      rw [os_nt, if_neg z]
theorem i_vc_turn {k : Nat} {u : SX} {v : SY} (I : i_Rel k u v) (hk : k + 5 ≤ 2560) (v1 : Int32) (v2 : Int32) : wpX_turn (fun r u' => wpY_turn (fun r' v' => r' = r ∧ i_Rel (k + 5) u' v') v v1 v2) u v1 v2 := by
  have J : i_Rel (k + 5) u v := I
  obtain ⟨m, rfl, hB⟩ := os_I I
  rcases os_sol v1 with ⟨r, hr, rfl⟩ | ⟨hx, hy⟩
  · rcases os_sol v2 with ⟨s, hs, rfl⟩ | ⟨hx, hy⟩
    · have hX := os_xtrn u hr hs (fun r_1 u' => wpY_turn (fun r' v' => r' = r_1 ∧ i_Rel (k + 5) u' v') (u, m) (nI r) (nI s))
      have hY := os_ytrn u m hr hs (fun r' v' => r' = 1 ∧ i_Rel (k + 5) (os_put u (512 * r) (fun e => os_nt (u (512 * s + e))) 512) v') ⟨rfl, And.intro rfl (os_putB hB _ _ (fun _ _ => os_nt01 _))⟩ 512 0 rfl
      rw [os_put0] at hY
      have h0 := hX (by unfold wpY_turn; dsimp only; exact os_ys hr (br_f os_10 (os_ys hs (br_f os_10 ⟨_, hY⟩)))) 512 0 rfl
      rw [os_put0] at h0
      unfold wpX_turn
      exact os_xs hr (br_f os_10 (os_xs hs (br_f os_10 (nm_r (os_bx r) (nm_r (os_bx s) ⟨_, h0⟩)))))
    · unfold wpX_turn wpY_turn
      dsimp only
      exact os_xs hr (br_f os_10 (hx _ (br_t rfl (os_ys hr (br_f os_10 (hy _ _ _ (br_t rfl ⟨rfl, J⟩)))))))
  · unfold wpX_turn wpY_turn
    dsimp only
    exact hx _ (br_t rfl (hy _ _ _ (br_t rfl ⟨rfl, J⟩)))
