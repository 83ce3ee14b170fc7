/-! the reference's side of the filter -/
def rs_ym (m : Int32) (a b : Bool) : Bool := if m = 0 then a && b else if m = 1 then a || b else if m = 2 then !(a && b) else !a && !b
def rs_yp (f h p q : Int32) : Bool := (decide (¬ h < ((f >>> ((10 : Int32) &&& 31)) &&& 15)) && decide (¬ (f >>> ((14 : Int32) &&& 31)) < h)) && rs_ym ((f >>> ((8 : Int32) &&& 31)) &&& 3) (decide (((f >>> (p &&& 31)) &&& 1) = 1)) (decide (((f >>> ((4 + q) &&& 31)) &&& 1) = 1))
theorem rs_y85 (post : Int32 → Prop) (m : Int32) (x y t : Bool) (z : Int32) (h p q a hb sb ob : Nat → Int32) (k : post (rs_b (t && rs_ym m x y))) : wY_passes_85 post m (rs_b x) (rs_b y) (rs_b t) z h p q a hb sb ob := by
  unfold wY_passes_85 wY_passes_105 wY_passes_124 wY_passes_147 wY_passes_169 wY_passes_170
  unfold rs_ym at k
  by_cases m0 : m = 0
  · refine br_t m0 ?_
    rw [if_pos m0] at k
    cases x <;> cases y <;> cases t <;>
      simp only [rs_b, if_true, if_false, Bool.false_eq_true, rs_n10, not_true, not_false_iff, true_imp_iff, false_imp_iff, and_true, true_and, forall_const] <;> exact k
  · refine br_f m0 ?_
    rw [if_neg m0] at k
    by_cases m1 : m = 1
    · refine br_t m1 ?_
      rw [if_pos m1] at k
      cases x <;> cases y <;> cases t <;>
        simp only [rs_b, if_true, if_false, Bool.false_eq_true, rs_n10, not_true, not_false_iff, true_imp_iff, false_imp_iff, and_true, true_and, forall_const] <;> exact k
    · refine br_f m1 ?_
      rw [if_neg m1] at k
      by_cases m2 : m = 2
      · refine br_t m2 ?_
        rw [if_pos m2] at k
        cases x <;> cases y <;> cases t <;>
          simp only [rs_b, if_true, if_false, Bool.false_eq_true, rs_n10, not_true, not_false_iff, true_imp_iff, false_imp_iff, and_true, true_and, forall_const] <;> exact k
      · refine br_f m2 ?_
        rw [if_neg m2] at k
        cases x <;> cases y <;> cases t <;>
          simp only [rs_b, if_true, if_false, Bool.false_eq_true, rs_n10, not_true, not_false_iff, true_imp_iff, false_imp_iff, and_true, true_and, forall_const] <;> exact k
theorem rs_y49 (post : Int32 → Prop) (f m : Int32) (i : Nat) (hi : i < 400) (x y : Bool) (z : Int32) (h p q a hb sb ob : Nat → Int32)
    (k : post (rs_b ((decide (¬ h i < ((f >>> ((10 : Int32) &&& 31)) &&& 15)) && decide (¬ (f >>> ((14 : Int32) &&& 31)) < h i)) && rs_ym m x y))) : wY_passes_49 post f (nI i) m (rs_b x) (rs_b y) z h p q a hb sb ob := by
  unfold wY_passes_49 wY_passes_84
  refine ⟨vp_in_nI hi (by omega), ?_⟩
  rw [nI_clamp (by omega)]
  refine br_c (fun y1 => ?_) (fun y1 => ⟨vp_in_nI hi (by omega), br_c (fun y2 => ?_) (fun y2 => ?_)⟩)
  · rw [decide_eq_false (fun n => n y1), Bool.false_and] at k
    exact rs_y85 post m x y false z h p q a hb sb ob k
  · rw [decide_eq_true y1, decide_eq_false (fun n => n y2), Bool.true_and] at k
    exact rs_y85 post m x y false z h p q a hb sb ob k
  · rw [decide_eq_true y1, decide_eq_true y2, Bool.true_and] at k
    exact rs_y85 post m x y true z h p q a hb sb ob k
theorem rs_y26 (post : Int32 → Prop) (f m : Int32) (i : Nat) (hi : i < 400) (x : Bool) (z : Int32) (h p q a hb sb ob : Nat → Int32)
    (k : post (rs_b ((decide (¬ h i < ((f >>> ((10 : Int32) &&& 31)) &&& 15)) && decide (¬ (f >>> ((14 : Int32) &&& 31)) < h i)) && rs_ym m x (decide (((f >>> ((4 + q i) &&& 31)) &&& 1) = 1))))) : wY_passes_26 post f (nI i) m (rs_b x) z h p q a hb sb ob := by
  unfold wY_passes_26
  refine ⟨vp_in_nI hi (by omega), ?_⟩
  rw [nI_clamp (by omega)]
  refine br_c (fun y => ?_) (fun y => ?_)
  · rw [decide_eq_true y] at k
    exact rs_y49 post f m i hi x true z h p q a hb sb ob k
  · rw [decide_eq_false y] at k
    exact rs_y49 post f m i hi x false z h p q a hb sb ob k
theorem rs_yps (post : Int32 → Prop) (f : Int32) (i : Nat) (hi : i < 400) (z : Int32) (h p q a hb sb ob : Nat → Int32)
    (h1 : rs_yp f (h i) (p i) (q i) = true → post 1) (h0 : rs_yp f (h i) (p i) (q i) = false → post 0) : wpY_passes post (z, h, p, q, a, hb, sb, ob) f (nI i) := by
  have k : post (rs_b (rs_yp f (h i) (p i) (q i))) := by
    cases e : rs_yp f (h i) (p i) (q i)
    · exact h0 e
    · exact h1 e
  unfold rs_yp at k
  unfold wpY_passes
  dsimp only
  refine nm_e ⟨vp_in_nI hi (by omega), ?_⟩
  rw [nI_clamp (by omega)]
  refine br_c (fun y => ?_) (fun y => ?_)
  · rw [decide_eq_true y] at k
    exact rs_y26 post f _ i hi true z h p q a hb sb ob k
  · rw [decide_eq_false y] at k
    exact rs_y26 post f _ i hi false z h p q a hb sb ob k
theorem rs_ym_m {m : Nat} (hm : m < 4) (a b : Bool) : rs_ym (nI m) a b = rs_m m a b := by
  unfold rs_ym rs_m
  rcases (by omega : m = 0 ∨ m = 1 ∨ m = 2 ∨ m = 3) with rfl | rfl | rfl | rfl <;> rfl
theorem rs_lo {F k : Nat} (hk : k < 4) : F / 2 ^ k % 2 = F % 16 / 2 ^ k % 2 := by
  rcases (by omega : k = 0 ∨ k = 1 ∨ k = 2 ∨ k = 3) with rfl | rfl | rfl | rfl <;> omega
theorem rs_hi {F k : Nat} (hk : k < 4) : F / 2 ^ (4 + k) % 2 = F / 16 % 16 / 2 ^ k % 2 := by
  rcases (by omega : k = 0 ∨ k = 1 ∨ k = 2 ∨ k = 3) with rfl | rfl | rfl | rfl <;> omega
theorem rs_yp_p {F s : Nat} (hF : F < 262144) (hs : s < 256) : rs_yp (nI F) (nI (s / 16)) (nI (s / 4 % 4)) (nI (s % 4)) = rs_p F s := by
  have hF' : F < 2 ^ 31 := by omega
  have a1 : (nI F >>> ((10 : Int32) &&& 31)) &&& 15 = nI (F / 1024 % 16) := by
    rw [pk_shrN hF' _ 10 (by decide +kernel), pk_andN (by omega) 4 (by decide +kernel)]
  have a2 : nI F >>> ((14 : Int32) &&& 31) = nI (F / 16384) := by
    rw [pk_shrN hF' _ 14 (by decide +kernel)]
  have a3 : (nI F >>> ((8 : Int32) &&& 31)) &&& 3 = nI (F / 256 % 4) := by
    rw [pk_shrN hF' _ 8 (by decide +kernel), pk_andN (by omega) 2 (by decide +kernel)]
  have a4 : (4 : Int32) + nI (s % 4) = nI (4 + s % 4) := nI_add 4 (s % 4)
  have b1 : decide (¬ nI (s / 16) < nI (F / 1024 % 16)) = decide (F / 1024 % 16 ≤ s / 16) := by
    refine decide_eq_decide.mpr ?_
    rw [nI_ltI (by omega) (by omega)]
    omega
  have b2 : decide (¬ nI (F / 16384) < nI (s / 16)) = decide (s / 16 ≤ F / 16384 % 16) := by
    refine decide_eq_decide.mpr ?_
    rw [nI_ltI (by omega) (by omega)]
    omega
  have b3 : decide (((nI F >>> (nI (s / 4 % 4) &&& 31)) &&& 1) = 1) = decide (F % 16 / 2 ^ (s / 4 % 4) % 2 = 1) := by
    refine decide_eq_decide.mpr ?_
    rw [rs_bit1 hF' (by omega), rs_lo (by omega)]
  have b4 : decide (((nI F >>> (nI (4 + s % 4) &&& 31)) &&& 1) = 1) = decide (F / 16 % 16 / 2 ^ (s % 4) % 2 = 1) := by
    refine decide_eq_decide.mpr ?_
    rw [rs_bit1 hF' (by omega), rs_hi (by omega)]
  unfold rs_yp rs_p
  rw [a1, a2, a3, a4, b1, b2, b3, b4, rs_ym_m (by omega)]
/-! filter and grouping checks -/
theorem rs_ff (f : Int32) : (∃ F, F < 262144 ∧ f = nI F) ∨ (f < 0 ∨ 262143 < f) := by
  by_cases h0 : f < 0
  · exact Or.inr (Or.inl h0)
  · by_cases h1 : 262143 < f
    · exact Or.inr (Or.inr h1)
    · obtain ⟨j, hj, e⟩ := nI_of2 (n := 262143) (by decide +kernel) h0 (Int32.not_lt.mp h1)
      exact Or.inl ⟨j, by omega, e⟩
theorem rs_xf1 (post : Int32 → Prop) {F : Nat} (hF : F < 262144) (k : post 1) : wpX_isFilter post (nI F) := by
  unfold wpX_isFilter
  exact pk_lt F 0 (fun y => by omega) (fun _ => pk_lt 262143 F (fun y => by omega) (fun _ => k))
theorem rs_xf0 (post : Int32 → Prop) {f : Int32} (hf : f < 0 ∨ 262143 < f) (k : post 0) : wpX_isFilter post f := by
  unfold wpX_isFilter
  rcases hf with h | h
  · exact br_t h k
  · exact br_c (fun _ => k) (fun _ => br_t h k)
theorem rs_yf1 (post : Int32 → Prop) {F : Nat} (hF : F < 262144) (v : SY) (k : post 1) : wpY_filter post v (nI F) := by
  unfold wpY_filter
  exact pk_lt F 0 (fun y => by omega) (fun _ => pk_le 262144 F (fun y => by omega) (fun _ => k))
theorem rs_yf0 (post : Int32 → Prop) {f : Int32} (hf : f < 0 ∨ 262143 < f) (v : SY) (k : post 0) : wpY_filter post v f := by
  unfold wpY_filter
  rcases hf with h | h
  · exact br_t h k
  · refine br_c (fun _ => k) (fun y => br_c (fun _ => k) (fun y2 => ?_))
    obtain ⟨j, hj, rfl⟩ := nI_of y
    exact absurd ((nI_ltI (a := 262143) (by omega) hj).mp h) (fun l => y2 ((nI_leI (a := 262144) (by omega) hj).mpr (by omega)))
theorem rs_bb (f : Int32) : (∃ b, b < 3 ∧ f = nI b) ∨ (f < 0 ∨ 2 < f) := by
  by_cases h0 : f < 0
  · exact Or.inr (Or.inl h0)
  · by_cases h1 : 2 < f
    · exact Or.inr (Or.inr h1)
    · obtain ⟨j, hj, e⟩ := nI_of2 (n := 2) (by decide +kernel) h0 (Int32.not_lt.mp h1)
      exact Or.inl ⟨j, by omega, e⟩
theorem rs_xg1 (post : Int32 → Prop) {b : Nat} (hb : b < 3) (k : post 1) : wpX_isGrouping post (nI b) := by
  unfold wpX_isGrouping
  exact pk_lt b 0 (fun y => by omega) (fun _ => pk_lt 2 b (fun y => by omega) (fun _ => k))
theorem rs_xg0 (post : Int32 → Prop) {f : Int32} (hf : f < 0 ∨ 2 < f) (k : post 0) : wpX_isGrouping post f := by
  unfold wpX_isGrouping
  rcases hf with h | h
  · exact br_t h k
  · exact br_c (fun _ => k) (fun _ => br_t h k)
