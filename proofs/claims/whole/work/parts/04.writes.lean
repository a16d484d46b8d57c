/-! box -/
abbrev os_co (c ax : Int32) : Int32 := (c >>> ((3 * ax) &&& 31)) &&& 7
def os_bt (v p q : Int32) : Prop := (p.toInt ≤ v.toInt ∧ v.toInt ≤ q.toInt) ∨ (q.toInt ≤ v.toInt ∧ v.toInt ≤ p.toInt)
def os_in (e c d : Int32) : Prop := os_bt (os_co e 0) (os_co c 0) (os_co d 0) ∧ os_bt (os_co e 1) (os_co c 1) (os_co d 1) ∧ os_bt (os_co e 2) (os_co c 2) (os_co d 2)
theorem os_xb42 {post J : Int32 → Prop} {x0 x1 x2 x3 x3' v p q : Int32} (hv : p.toInt ≤ v.toInt ∨ q.toInt ≤ v.toInt) (e : x3 + 1 = x3') (h1 : os_bt v p q → J x3') (h0 : ¬ os_bt v p q → post 0) : wX_isInBox_42 post J x0 x1 x2 x3 v p q := by
  refine br_c (fun h2 => ?_) (fun h2 => br_c (fun h3 => ?_) (fun h3 => ?_))
  · rw [Int32.le_iff_toInt_le] at h2
    exact nm_r e (h1 (by unfold os_bt; omega))
  · rw [Int32.le_iff_toInt_le] at h2 h3
    exact nm_r e (h1 (by unfold os_bt; omega))
  · rw [Int32.le_iff_toInt_le] at h2 h3
    exact h0 (by unfold os_bt; omega)
theorem os_xib1 {post : Int32 → Prop} {e c d ax ax' : Int32} (n : Nat) (h3 : ¬ 3 ≤ ax) (hax : ax + 1 = ax') (h1 : os_bt (os_co e ax) (os_co c ax) (os_co d ax) → wX_isInBox_2 post e c d n ax') (h0 : ¬ os_bt (os_co e ax) (os_co c ax) (os_co d ax) → post 0) : wX_isInBox_2 post e c d (n + 1) ax := by
  refine br_f h3 ?_
  unfold wpX_coordinate
  dsimp only
  refine br_c (fun h2 => ?_) (fun h2 => br_c (fun h4 => ?_) (fun h4 => ?_))
  · rw [Int32.le_iff_toInt_le] at h2
    exact os_xb42 (Or.inl h2) hax h1 h0
  · rw [Int32.le_iff_toInt_le] at h2
    rw [Int32.lt_iff_toInt_lt] at h4
    refine h0 ?_
    unfold os_bt os_co
    omega
  · rw [Int32.le_iff_toInt_le] at h2
    rw [Int32.lt_iff_toInt_lt] at h4
    exact os_xb42 (Or.inr (by omega)) hax h1 h0
theorem os_xib {post : Int32 → Prop} {e c d : Int32} (h1 : os_in e c d → post 1) (h0 : ¬ os_in e c d → post 0) : wpX_isInBox post e c d := by
  refine ⟨4, os_xib1 (ax' := 1) 3 (by decide) (by decide) (fun b0 => ?_) (fun b => h0 (fun g => b g.1))⟩
  refine os_xib1 (ax' := 2) 2 (by decide) (by decide) (fun b1 => ?_) (fun b => h0 (fun g => b g.2.1))
  refine os_xib1 (ax' := 3) 1 (by decide) (by decide) (fun b2 => ?_) (fun b => h0 (fun g => b g.2.2))
  exact br_t (by decide) (h1 ⟨b0, b1, b2⟩)
theorem os_yb41 {post : Int32 → Prop} {v p q : Int32} {a m : Nat → Int32} (hv : ¬ (p.toInt ≤ v.toInt ∧ v.toInt ≤ q.toInt)) (h1 : os_bt v p q → post 1) (h0 : ¬ os_bt v p q → post 0) : wY_between_41 post v p q a m := by
  refine br_c (fun h2 => ?_) (fun h2 => br_c (fun h3 => ?_) (fun h3 => ?_))
  · rw [Int32.lt_iff_toInt_lt] at h2
    exact h0 (by unfold os_bt; omega)
  · rw [Int32.lt_iff_toInt_lt] at h2 h3
    exact h0 (by unfold os_bt; omega)
  · rw [Int32.lt_iff_toInt_lt] at h2 h3
    exact h1 (by unfold os_bt; omega)
theorem os_ybt {post : Int32 → Prop} {a m : Nat → Int32} {e c d ax : Int32} (h1 : os_bt (os_co e ax) (os_co c ax) (os_co d ax) → post 1) (h0 : ¬ os_bt (os_co e ax) (os_co c ax) (os_co d ax) → post 0) : wpY_between post (a, m) e c d ax := by
  unfold wpY_between wpY_part
  dsimp only
  refine br_c (fun h2 => ?_) (fun h2 => br_c (fun h4 => ?_) (fun h4 => ?_))
  · rw [Int32.lt_iff_toInt_lt] at h2
    exact os_yb41 (by omega) h1 h0
  · rw [Int32.lt_iff_toInt_lt] at h2
    rw [Int32.le_iff_toInt_le] at h4
    refine h1 ?_
    unfold os_bt os_co
    omega
  · rw [Int32.lt_iff_toInt_lt] at h2
    rw [Int32.le_iff_toInt_le] at h4
    exact os_yb41 (by omega) h1 h0
theorem os_us (a : Nat → Int32) (j : Nat) : upd a j (a j) = a := by
  funext i
  by_cases h : i = j
  · rw [h, pk_us]
  · rw [pk_un h]
theorem os_uB {a : Nat → Int32} (h : os_B a) (j : Nat) {x : Int32} (hx : x = 0 ∨ x = 1) : os_B (upd a j x) := by
  intro i
  by_cases e : i = j
  · rw [e, pk_us]; exact hx
  · rw [pk_un e]; exact h i
theorem os_y88 {post : Int32 → SY → Prop} {J : Int32 → (Nat → Int32) → (Nat → Int32) → Prop} {r i : Nat} {x2 x3 x4 : Int32} {a m : Nat → Int32} (hr : r < 4) (hi : i < 512) (hB : os_B a) (h : J (nI (i + 1)) a m) : wY_box_88 post J (nI r) x2 x3 x4 (nI i) a m :=
  br_t rfl ⟨os_yv hr hi, os_yv hr hi, nm_r (by rw [os_n1 (hB _), os_us]) (nm_r (nI_1 i) h)⟩
theorem os_box (m : Nat → Int32) (r : Nat) (hr : r < 4) (c d w : Int32) : ∀ t i : Nat, i + t = 512 → ∀ a : Nat → Int32, os_B a → ∃ a' : Nat → Int32, os_B a' ∧ (∀ post : Int32 → SX → Prop, post 1 a' → wX_box_44 post c d w (nI (512 * r)) (t + 1) (nI i) a) ∧ (∀ post : Int32 → SY → Prop, post 1 (a', m) → wY_box_40 post (nI r) c d w (t + 1) (nI i) a m) := by
  intro t
  induction t with
  | zero =>
    intro i hi a hB
    exact ⟨a, hB, fun _ hp => br_t (os_ge hi) hp, fun _ hp => br_t (os_ge hi) hp⟩
  | succ t ih =>
    intro i hi a hB
    have h5 : i < 512 := by omega
    by_cases hin : os_in (nI i) c d
    · by_cases hw : w = 1
      · obtain ⟨a', hB', hX, hY⟩ := ih (i + 1) (by omega) (upd a (512 * r + i) 1) (os_uB hB _ (Or.inr rfl))
        refine ⟨a', hB', fun post hp => br_f (os_lt h5) (os_xib (fun _ => br_f os_10 (br_t hw ⟨os_xv hr h5, nm_r (by rw [os_xi hr h5, os_n1 (Or.inr rfl)]) (nm_r (nI_1 i) (hX post hp))⟩)) (fun n => absurd hin n)), fun post hp => br_f (os_lt h5) ?_⟩
        exact os_ybt (fun _ => br_f os_10 (os_ybt (fun _ => br_f os_10 (os_ybt (fun _ => br_f os_10 (br_f os_10 (br_t hw ⟨os_yv hr h5, nm_r (by rw [os_yi hr h5, os_n1 (Or.inr rfl)]) (nm_r (nI_1 i) (hY post hp))⟩))) (fun n => absurd hin.2.2 n))) (fun n => absurd hin.2.1 n))) (fun n => absurd hin.1 n)
      · obtain ⟨a', hB', hX, hY⟩ := ih (i + 1) (by omega) (upd a (512 * r + i) 0) (os_uB hB _ (Or.inl rfl))
        refine ⟨a', hB', fun post hp => br_f (os_lt h5) (os_xib (fun _ => br_f os_10 (br_f hw ⟨os_xv hr h5, nm_r (by rw [os_xi hr h5, os_n1 (Or.inl rfl)]) (nm_r (nI_1 i) (hX post hp))⟩)) (fun n => absurd hin n)), fun post hp => br_f (os_lt h5) ?_⟩
        exact os_ybt (fun _ => br_f os_10 (os_ybt (fun _ => br_f os_10 (os_ybt (fun _ => br_f os_10 (br_f os_10 (br_f hw ⟨os_yv hr h5, nm_r (by rw [os_yi hr h5, os_n1 (Or.inl rfl)]) (nm_r (nI_1 i) (hY post hp))⟩))) (fun n => absurd hin.2.2 n))) (fun n => absurd hin.2.1 n))) (fun n => absurd hin.1 n)
    · obtain ⟨a', hB', hX, hY⟩ := ih (i + 1) (by omega) a hB
      refine ⟨a', hB', fun post hp => br_f (os_lt h5) (os_xib (fun y => absurd y hin) (fun _ => br_t rfl (nm_r (nI_1 i) (hX post hp)))), fun post hp => br_f (os_lt h5) ?_⟩
      exact os_ybt (fun b0 => br_f os_10 (os_ybt (fun b1 => br_f os_10 (os_ybt (fun b2 => absurd ⟨b0, b1, b2⟩ hin) (fun _ => br_t rfl (os_y88 hr h5 hB (hY post hp))))) (fun _ => br_t rfl (os_y88 hr h5 hB (hY post hp))))) (fun _ => br_t rfl (os_y88 hr h5 hB (hY post hp)))
theorem i_vc_box {k : Nat} {u : SX} {v : SY} (I : i_Rel k u v) (hk : k + 5 ≤ 2560) (v1 : Int32) (v2 : Int32) (v3 : Int32) (v4 : Int32) : wpX_box (fun r u' => wpY_box (fun r' v' => r' = r ∧ i_Rel (k + 5) u' v') v v1 v2 v3 v4) u v1 v2 v3 v4 := by
  have J : i_Rel (k + 5) u v := I
  obtain ⟨m, rfl, hB⟩ := os_I I
  unfold wpX_box wpY_box
  dsimp only
  rcases os_sol v1 with ⟨r, hr, rfl⟩ | ⟨hx, hy⟩
  · refine os_xs hr (br_f os_10 ?_)
    rcases os_cel v2 with ⟨c, hc, rfl⟩ | ⟨hx, hy⟩
    · refine os_xc hc (br_f os_10 ?_)
      rcases os_cel v3 with ⟨d, hd, rfl⟩ | ⟨hx, hy⟩
      · refine os_xc hd (br_f os_10 ?_)
        obtain ⟨a', hB', hX, hY⟩ := os_box m r hr (nI c) (nI d) v4 512 0 rfl u hB
        refine br_c (fun h => ?_) (fun h => br_c (fun h1 => nm_r (os_bx r) ⟨_, hX _ ?_⟩) (fun h1 => ?_))
        · have n0 : ¬ v4 = 0 := by rintro rfl; exact absurd h (by decide)
          have n1 : ¬ v4 = 1 := by rintro rfl; exact absurd h (by decide)
          exact os_ys hr (br_f os_10 (os_yc hc (br_f os_10 (os_yc hd (br_f os_10 (br_f n0 (br_f n1 ⟨rfl, J⟩)))))))
        · refine os_ys hr (br_f os_10 (os_yc hc (br_f os_10 (os_yc hd (br_f os_10 ?_)))))
          refine br_c (fun _ => ⟨_, hY _ ⟨rfl, And.intro rfl hB'⟩⟩) (fun n0 => br_c (fun _ => ⟨_, hY _ ⟨rfl, And.intro rfl hB'⟩⟩) (fun n1 => ?_))
          obtain ⟨j, hj, rfl⟩ := nI_of h
          have hj1 : j ≤ 1 := (nI_leI (b := 1) hj (by decide)).mp h1
          have hj2 : j = 0 ∨ j = 1 := by omega
          rcases hj2 with rfl | rfl
          · exact absurd nI_0 n0
          · exact absurd rfl n1
        · have n0 : ¬ v4 = 0 := by rintro rfl; exact h1 (by decide)
          have n1 : ¬ v4 = 1 := by rintro rfl; exact h1 (by decide)
          exact os_ys hr (br_f os_10 (os_yc hc (br_f os_10 (os_yc hd (br_f os_10 (br_f n0 (br_f n1 ⟨rfl, J⟩)))))))
      · exact hx _ (br_t rfl (os_ys hr (br_f os_10 (os_yc hc (br_f os_10 (hy _ _ _ (br_t rfl ⟨rfl, J⟩)))))))
    · exact hx _ (br_t rfl (os_ys hr (br_f os_10 (hy _ _ _ (br_t rfl ⟨rfl, J⟩)))))
  · exact hx _ (br_t rfl (hy _ _ _ (br_t rfl ⟨rfl, J⟩)))
/-! stretches of an array written over -/
def os_put (a : Nat → Int32) (T : Nat) (g : Nat → Int32) (i : Nat) : Nat → Int32 := fun j => if T ≤ j ∧ j < T + i then g (j - T) else a j
theorem os_put0 (a : Nat → Int32) (T : Nat) (g : Nat → Int32) : os_put a T g 0 = a := by
  funext j
  exact if_neg (by omega)
theorem os_putS (a : Nat → Int32) (T : Nat) (g : Nat → Int32) (i : Nat) : upd (os_put a T g i) (T + i) (g i) = os_put a T g (i + 1) := by
  funext j
  by_cases h : j = T + i
  · rw [h, pk_us]
    exact ((if_pos (by omega)).trans (by rw [Nat.add_sub_cancel_left])).symm
  · rw [pk_un h]
    by_cases h2 : T ≤ j ∧ j < T + i
    · exact (if_pos h2).trans (if_pos (by omega)).symm
    · exact (if_neg h2).trans (if_neg (by omega)).symm
theorem os_putO (a : Nat → Int32) {T j : Nat} (g : Nat → Int32) {i : Nat} (h : ¬ (T ≤ j ∧ j < T + i)) : os_put a T g i j = a j := if_neg h
theorem os_putI (a : Nat → Int32) {T j : Nat} (g : Nat → Int32) {i : Nat} (h : T ≤ j ∧ j < T + i) : os_put a T g i j = g (j - T) := if_pos h
theorem os_putB {a : Nat → Int32} (hB : os_B a) (T : Nat) {g : Nat → Int32} (i : Nat) (hg : ∀ e, e < i → g e = 0 ∨ g e = 1) : os_B (os_put a T g i) := by
  intro j
  by_cases h : T ≤ j ∧ j < T + i
  · rw [os_putI a g h]; exact hg _ (by omega)
  · rw [os_putO a g h]; exact hB j
theorem os_putC (a : Nat → Int32) (T : Nat) {g g' : Nat → Int32} (h : ∀ e, e < 512 → g e = g' e) : os_put a T g 512 = os_put a T g' 512 := by
  funext j
  by_cases c : T ≤ j ∧ j < T + 512
  · rw [os_putI a g c, os_putI a g' c]; exact h _ (by omega)
  · rw [os_putO a g c, os_putO a g' c]
theorem os_put00 (m : Nat → Int32) (g : Nat → Int32) {e : Nat} (h : e < 512) : os_put m 0 g 512 e = g e := os_putI m g (by omega)
/-! keep -/
theorem os_keep (a mm : Nat → Int32) (r : Nat) (hr : r < 4) (hm : ∀ e, e < 512 → mm e = 0 ∨ mm e = 1) (post : SY → Prop) (hp : post (os_put a (512 * r) mm 512, mm)) : ∀ t i : Nat, i + t = 512 → wY_keep_2 post (nI r) (t + 1) (nI i) (os_put a (512 * r) mm i) mm := by
  intro t
  induction t with
  | zero =>
    intro i hi
    have e : i = 512 := hi
    rw [e]
    exact br_t (os_ge rfl) hp
  | succ t ih =>
    intro i hi
    have h5 : i < 512 := by omega
    refine br_f (os_lt h5) ⟨vp_in_nI h5 (by decide), os_yv hr h5, nm_r ?_ (nm_r (nI_1 i) (ih (i + 1) (by omega)))⟩
    rw [os_yi hr h5, nI_clamp (by omega), os_n1 (hm i h5), os_putS]
theorem os_keepw (a m g : Nat → Int32) (r : Nat) (hr : r < 4) (hg : ∀ e, e < 512 → g e = 0 ∨ g e = 1) (post : SY → Prop) (hp : post (os_put a (512 * r) g 512, os_put m 0 g 512)) : wpY_keep post (a, os_put m 0 g 512) (nI r) := by
  have h := os_keep a (os_put m 0 g 512) r hr (fun e he => by rw [os_put00 m g he]; exact hg e he) post (by rw [os_putC a (512 * r) (g' := g) (fun e he => os_put00 m g he)]; exact hp) 512 0 rfl
  rw [os_put0] at h
  exact ⟨_, h⟩
